/-! CALLS THAT ONLY ASK: of the book -/
theorem s_sht8 {I : Mem} {τ : Td} (hW : WF τ) (hB : BS I τ) {j : Nat} (hj : j < tS τ) : f_X8_isSheet (nI j) I = some (1, I) := by
  have := tS_le hW
  unfold f_X8_isSheet
  rw [if_neg (nI_pos (by omega)), hB.1, if_neg (nI_ge hj (by omega))]
theorem s_sht8_no {I : Mem} {τ : Td} (hW : WF τ) (hB : BS I τ) {w : Int32} (hw : w.toInt < 0 ∨ (tS τ : Int) ≤ w.toInt) : f_X8_isSheet w I = some (0, I) := by
  have := tS_le hW
  unfold f_X8_isSheet
  rcases neg_or hw (by omega) with h | ⟨h1, h2⟩
  · rw [if_pos h]
  · rw [if_neg h1, hB.1, if_pos h2]
theorem s_sht9 {I J : Mem} {τ : Td} (hW : WF τ) (hJ : f_X9_sheetMany I = some (nI (tS τ), J)) {j : Nat} (hj : j < tS τ) : f_X9_isSheet (nI j) I = some (1, J) := by
  have := tS_le hW
  unfold f_X9_isSheet
  rw [hJ, bI_some, show nI (tS τ) - 1 = nI (tS τ - 1) from nI_sub (b := 1) (by omega) (by omega), in_k (b := 0) (c := tS τ - 1) (by omega) rfl (to64 (by omega)) (Nat.zero_le _) (by omega), bI_some, ck_t (by decide)]
theorem s_sht9_no {I J : Mem} {τ : Td} (hW : WF τ) (hJ : f_X9_sheetMany I = some (nI (tS τ), J)) {w : Int32} (hw : w.toInt < 0 ∨ (tS τ : Int) ≤ w.toInt) : f_X9_isSheet w I = some (0, J) := by
  have := tS_le hW
  have h1 := tS_pos hW
  unfold f_X9_isSheet
  rw [hJ, bI_some, show nI (tS τ) - 1 = nI (tS τ - 1) from nI_sub (b := 1) (by omega) (by omega), in_no (b := 0) (c := (tS τ - 1 : Nat)) rfl (to64 (by omega)) (by omega), bI_some, ck_t (by decide)]
theorem q_sht {f8 f9 : Mem → Option (Int32 × Mem)} {I : Mem} {L : Nat} {x : Nat → Nat} {τ : Td} {d : Nat} {us : Nat → Td} (hC : IC I L x τ d us) (hM : IM I L x τ d us) {w : Int32} (K8 K9 : Int32 → Mem → Option (Int32 × Mem)) (e8 : f8 I = bI (f_X8_isSheet w I) K8) (e9 : f9 I = bI (f_X9_isSheet w I) K9) (k8 : ∀ I, K8 0 I = some (-1, I)) (k9 : ∀ I, K9 0 I = some (-1, I)) (h : ∀ j J, j < tS τ → w = nI j → PN J τ → ∃ v, K8 1 I = some (v, I) ∧ ∃ J', K9 1 J = some (v, J') ∧ MF J J') : Sm f8 f9 I := by
  have hW := hC.wf
  obtain ⟨J, j1, j2, j3, j4⟩ := s_sheetMany hW hM.told
  have hMF := MF.plan j3 j4
  rcases arg_cases w (tS τ) with ⟨k, hk, -, rfl⟩ | hw
  · obtain ⟨v, a, J', b, c⟩ := h k J hk rfl j2
    refine Sm_q hC hM (v := v) ?_ ⟨J', ?_, hMF.trans c⟩
    · rw [e8, s_sht8 hW hC.book.1 hk, bI_some, a]
    · rw [e9, s_sht9 hW j1 hk, bI_some]
      exact b
  · refine Sm_q hC hM (v := -1) ?_ ⟨J, ?_, hMF⟩
    · rw [e8, s_sht8_no hW hC.book.1 hw, bI_some, k8]
    · rw [e9, s_sht9_no hW j1 hw, bI_some, k9]
/-- number(sheet, page) -/
theorem q_number {I : Mem} {L : Nat} {x : Nat → Nat} {τ : Td} {d : Nat} {us : Nat → Td} (hC : IC I L x τ d us) (hM : IM I L x τ d us) (y w : Int32) : Sm (f_X8_number y w) (f_X9_number y w) I := by
  have hW := hC.wf
  have h100 := tS_le hW
  have hB := hC.book.1
  refine q_sht hC hM (w := y) _ _ rfl rfl (fun _ => rfl) (fun _ => rfl) ?_
  intro j J hj hy hP
  subst hy
  have hpg := pgN_le hW hj
  have h64 := to64 (n := pgN τ j) (by omega)
  rw [if10, if10, ck_t (inb_n (show j < 100 by omega) (by decide)), nI_tn (by omega), (hB.2.2 j hj).1, s_pg7 hW hC.told hj, bI_some, s_schemeOf9 hW hP hj, bI_some, s_pg9 hW hP.2.2 hj, bI_some]
  by_cases h1 : w.toInt < 1
  · refine ⟨-1, ?_, J, ?_, MF.refl J⟩
    · rw [if_pos (show w < 1 from lt_T.mpr h1)]
    · rw [in_no (b := 1) (c := (pgN τ j : Nat)) rfl h64 (by omega), bI_some, if00]
  rw [if_neg (show ¬ w < 1 from fun q => h1 (lt_T.mp q))]
  rcases arg_cases w (pgN τ j + 1) with ⟨q, hq, -, rfl⟩ | hw
  · rw [nI_toInt (by omega)] at h1
    refine ⟨nI (num τ j q), ?_, J, ?_, MF.refl J⟩
    · rw [if_pos (nI_le (show q ≤ pgN τ j by omega) (by omega)), s_numberOf hW hC.told hB hj (by omega) (by omega), bI_some]
    · rw [in_k (b := 1) (c := pgN τ j) (by omega) rfl h64 (by omega) (by omega), bI_some, if10, s_numberOf9 hW hP hj (by omega) (by omega), bI_some]
  · refine ⟨-1, ?_, J, ?_, MF.refl J⟩
    · rw [if_neg (show ¬ w ≤ nI (pgN τ j) from fun q => by
        have a1 := le_T.mp q
        rw [nI_toInt (by omega)] at a1
        omega)]
    · rw [in_no (b := 1) (c := (pgN τ j : Nat)) rfl h64 (by omega), bI_some, if00]
theorem num_mono {τ : Td} (hW : WF τ) {j q q' : Nat} (hj : j < tS τ) (h1 : 1 ≤ q) (h : q < q') (h2 : q' ≤ pgN τ j) : num τ j q < num τ j q' := by
  have h4 := hA_T hW
  have h3 := hA_lt (τ := τ) hj
  unfold num pP pgN at *
  by_cases hm : τ 2 = 1
  · rw [if_pos hm, if_pos hm]
    by_cases hq : 2 * zt τ (scN τ j) < q
    · rw [if_pos hq, if_pos (by omega)]; omega
    · rw [if_neg hq]
      by_cases hq' : 2 * zt τ (scN τ j) < q'
      · rw [if_pos hq']; omega
      · rw [if_neg hq']; omega
  · rw [if_neg hm, if_neg hm]; omega
/-- how many of the first q pages of sheet j stay blank -/
def blN (τ : Td) (j : Nat) : Nat → Nat
  | 0 => 0
  | q + 1 => blN τ j q + (if τ 0 < num τ j (q + 1) then 1 else 0)
theorem blN_s {τ : Td} {j q : Nat} (h : 1 ≤ q) : blN τ j q = blN τ j (q - 1) + (if τ 0 < num τ j q then 1 else 0) := by
  obtain ⟨m, rfl⟩ : ∃ m, q = m + 1 := ⟨q - 1, by omega⟩
  rfl
theorem s_blanksOn {I : Mem} {τ : Td} (hW : WF τ) (hT : TX I 3 τ) (hB : BS I τ) {j : Nat} (hj : j < tS τ) : f_X0_blanksOn_84_3 (nI j) I = some (nI (blN τ j (pgN τ j)), I) := by
  have h100 := tS_le hW
  have hpg := pgN_le hW hj
  have hP := pP_le hW
  have hN := hW.1.2
  unfold f_X0_blanksOn_84_3
  have key := iter_loop (fun f x (s : Int32) => l_X0_blanksOn_84_3_5 (fun (z6 : Int32) I7 => some (z6, I7)) f (nI j) s x I) (some (nI (blN τ j (pgN τ j)), I)) 1 (pgN τ j + 1) (fun q => nI (blN τ j (q - 1))) (by omega) ?_ ?_ fuel (by rw [fuel_v]; omega)
  · exact key
  · intro f q hq1 hq2
    show l_X0_blanksOn_84_3_5 _ (f + 1) (nI j) (nI (blN τ j (q - 1))) (nI q) I = l_X0_blanksOn_84_3_5 _ f (nI j) (nI (blN τ j (q + 1 - 1))) (nI (q + 1)) I
    have hb := num_bd hW hj hq1 (show q ≤ pgN τ j by omega)
    rw [u_X0_blanksOn_84_3_5]
    unfold b_X0_blanksOn_84_3_5
    rw [ck_t (inb_n (show j < 100 by omega) (by decide)), nI_tn (by omega), (hB.2.2 j hj).1, s_pg7 hW hT hj, bI_some, if_neg (nI_nlt (by omega) (by omega)), s_numberOf hW hT hB hj hq1 (by omega), bI_some, show I 4 0 = nI (τ 0) from hT.2.1 0 (by decide), nI_1, Nat.add_sub_cancel, blN_s hq1, nI_1]
    by_cases h : τ 0 < num τ j q
    · rw [if_neg (nI_ge h (by omega)), if_pos h]
    · rw [if_pos (nI_le (by omega) (by omega)), if_neg h]
      rfl
  · intro f
    show l_X0_blanksOn_84_3_5 _ (f + 1) (nI j) (nI (blN τ j (pgN τ j))) (nI (pgN τ j + 1)) I = _
    rw [u_X0_blanksOn_84_3_5]
    unfold b_X0_blanksOn_84_3_5
    rw [ck_t (inb_n (show j < 100 by omega) (by decide)), nI_tn (by omega), (hB.2.2 j hj).1, s_pg7 hW hT hj, bI_some, if_pos (nI_lt (Nat.lt_succ_self _) (by omega))]
theorem s_sheet50 {J : Mem} {τ : Td} (hW : WF τ) (hP : PN J τ) {j : Nat} (hj : j < tS τ) (w : Int32) (K : Int32 → Int32 → Int32 → Int32 → Int32 → Mem → Option (Int32 × Mem)) : l_X9_sheet_50 K fuel (nI j) w (nI (pgN τ j)) (nI (num τ j 1)) (nI (num τ j 1)) 0 1 J = K (nI j) w (nI (num τ j 1)) (nI (num τ j (pgN τ j))) (nI (blN τ j (pgN τ j))) J := by
  have h100 := tS_le hW
  have hpg := pgN_le hW hj
  have hpg4 := pgN_pos τ j
  have hP8 := pP_le hW
  have hN := hW.1.2
  have key := iter_loop (fun f x (s : Int32 × Int32) => l_X9_sheet_50 K f (nI j) w (nI (pgN τ j)) (nI (num τ j 1)) s.1 s.2 x J) (K (nI j) w (nI (num τ j 1)) (nI (num τ j (pgN τ j))) (nI (blN τ j (pgN τ j))) J) 1 (pgN τ j + 1) (fun q => (nI (num τ j (if q = 1 then 1 else q - 1)), nI (blN τ j (q - 1)))) (by omega) ?_ ?_ fuel (by rw [fuel_v]; omega)
  · exact key
  · intro f q hq1 hq2
    show l_X9_sheet_50 K (f + 1) (nI j) w (nI (pgN τ j)) (nI (num τ j 1)) (nI (num τ j (if q = 1 then 1 else q - 1))) (nI (blN τ j (q - 1))) (nI q) J = l_X9_sheet_50 K f (nI j) w (nI (pgN τ j)) (nI (num τ j 1)) (nI (num τ j (if q + 1 = 1 then 1 else q + 1 - 1))) (nI (blN τ j (q + 1 - 1))) (nI (q + 1)) J
    have hb := num_bd hW hj hq1 (show q ≤ pgN τ j by omega)
    have h1q : num τ j 1 ≤ num τ j q := by
      by_cases e : q = 1
      · rw [e]; exact Nat.le_refl _
      · exact Nat.le_of_lt (num_mono hW hj (by omega) (by omega) (by omega))
    have hjn : j_X9_sheet_95 (l_X9_sheet_50 K f) (nI j) w (nI (pgN τ j)) (nI (num τ j 1)) (nI (blN τ j (q - 1))) (nI q) (nI (num τ j q)) (nI (num τ j q)) J = l_X9_sheet_50 K f (nI j) w (nI (pgN τ j)) (nI (num τ j 1)) (nI (num τ j (if q + 1 = 1 then 1 else q + 1 - 1))) (nI (blN τ j (q + 1 - 1))) (nI (q + 1)) J := by
      unfold j_X9_sheet_95
      rw [hP.2.2.1 0 (by decide), if_neg (show ¬ q + 1 = 1 by omega), Nat.add_sub_cancel, blN_s hq1, nI_1, nI_1]
      by_cases h : τ 0 < num τ j q
      · rw [if_neg (nI_ge h (by omega)), if_pos h]
      · rw [if_pos (nI_le (by omega) (by omega)), if_neg h, Int32.add_zero]
        rfl
    rw [u_X9_sheet_50]
    unfold b_X9_sheet_50
    rw [if_neg (nI_nlt (by omega) (by omega)), s_numberOf9 hW hP hj hq1 (by omega), bI_some, if_pos (nI_le h1q (by omega))]
    by_cases e : q = 1
    · subst e
      rw [if_pos (show (1 : Nat) = 1 from rfl), if_pos (nI_le (Nat.le_refl _) (by omega))]
      exact hjn
    · rw [if_neg e, if_neg (nI_ge (num_mono hW hj (by omega) (by omega) (by omega)) (by omega))]
      exact hjn
  · intro f
    show l_X9_sheet_50 K (f + 1) (nI j) w (nI (pgN τ j)) (nI (num τ j 1)) (nI (num τ j (if pgN τ j + 1 = 1 then 1 else pgN τ j + 1 - 1))) (nI (blN τ j (pgN τ j + 1 - 1))) (nI (pgN τ j + 1)) J = _
    rw [u_X9_sheet_50]
    unfold b_X9_sheet_50
    rw [if_pos (nI_lt (Nat.lt_succ_self _) (by omega)), if_neg (show ¬ pgN τ j + 1 = 1 by omega), Nat.add_sub_cancel]
/-- sheet(j, what) -/
theorem q_sheet {I : Mem} {L : Nat} {x : Nat → Nat} {τ : Td} {d : Nat} {us : Nat → Td} (hC : IC I L x τ d us) (hM : IM I L x τ d us) (y w : Int32) : Sm (f_X8_sheet y w) (f_X9_sheet y w) I := by
  have hW := hC.wf
  have h100 := tS_le hW
  have hB := hC.book.1
  refine q_sht hC hM (w := y) _ _ rfl rfl (fun _ => rfl) (fun _ => rfl) ?_
  intro j J hj hy hP
  subst hy
  have hpg := pgN_le hW hj
  have hpg4 := pgN_pos τ j
  have hck : ∀ {α : Type} (z : Option α), ck (inb (nI j) 100) z = z := fun z => ck_t (inb_n (show j < 100 by omega) (by decide))
  rw [if10, if10, hck, nI_tn (by omega), (hB.2.2 j hj).1]
  rcases arg_cases w 5 with ⟨i, hi, -, rfl⟩ | hw
  · rw [in_k (b := 0) (c := 4) (by omega) rfl rfl (Nat.zero_le _) (by omega), bI_some, if10, s_schemeOf9 hW hP hj, bI_some, s_pg9 hW hP.2.2 hj, bI_some, show (1 : Int32) = nI 1 from rfl, s_numberOf9 hW hP hj (by omega) (by omega), bI_some, show nI 1 = (1 : Int32) from rfl, s_sheet50 hW hP hj]
    match i, hi with
    | 0, _ =>
      refine ⟨nI (scN τ j), ?_, J, ?_, MF.refl J⟩
      · rw [if_pos (show nI 0 = (0 : Int32) from rfl)]
      · rw [if_pos (show nI 0 = (0 : Int32) from rfl), s_schemeOf9 hW hP hj, bI_some]
    | 1, _ =>
      refine ⟨nI (τ (16 + j)), ?_, J, ?_, MF.refl J⟩
      · rw [if_neg (show ¬ nI 1 = (0 : Int32) by decide), if_pos (show nI 1 = (1 : Int32) from rfl), hck, show I 8 j = nI (τ (16 + j)) from hC.told.2.2.2 j (by omega)]
      · rw [if_neg (show ¬ nI 1 = (0 : Int32) by decide), if_pos (show nI 1 = (1 : Int32) from rfl), show (28 : Int32) + nI j = nI (28 + j) from nI_add 28 j, ck_t (inb_n (show 28 + j < 132 by omega) (by decide)), nI_tn (by omega), hP.2.2.2.2.1 j (by omega)]
    | 2, _ =>
      refine ⟨nI (num τ j 1), ?_, J, ?_, MF.refl J⟩
      · rw [if_neg (show ¬ nI 2 = (0 : Int32) by decide), if_neg (show ¬ nI 2 = (1 : Int32) by decide), if_pos (show nI 2 = (2 : Int32) from rfl), show (1 : Int32) = nI 1 from rfl, s_numberOf hW hC.told hB hj (by omega) (by omega), bI_some]
      · rw [if_neg (show ¬ nI 2 = (0 : Int32) by decide), if_neg (show ¬ nI 2 = (1 : Int32) by decide), if_pos (show nI 2 = (2 : Int32) from rfl)]
    | 3, _ =>
      refine ⟨nI (num τ j (pgN τ j)), ?_, J, ?_, MF.refl J⟩
      · rw [if_neg (show ¬ nI 3 = (0 : Int32) by decide), if_neg (show ¬ nI 3 = (1 : Int32) by decide), if_neg (show ¬ nI 3 = (2 : Int32) by decide), if_pos (show nI 3 = (3 : Int32) from rfl), s_pg7 hW hC.told hj, bI_some, s_numberOf hW hC.told hB hj (by omega) (by omega), bI_some]
      · rw [if_neg (show ¬ nI 3 = (0 : Int32) by decide), if_neg (show ¬ nI 3 = (1 : Int32) by decide), if_neg (show ¬ nI 3 = (2 : Int32) by decide), if_pos (show nI 3 = (3 : Int32) from rfl)]
    | 4, _ =>
      refine ⟨nI (blN τ j (pgN τ j)), ?_, J, ?_, MF.refl J⟩
      · rw [if_neg (show ¬ nI 4 = (0 : Int32) by decide), if_neg (show ¬ nI 4 = (1 : Int32) by decide), if_neg (show ¬ nI 4 = (2 : Int32) by decide), if_neg (show ¬ nI 4 = (3 : Int32) by decide), if_pos (show nI 4 = (4 : Int32) from rfl), s_blanksOn hW hC.told hB hj, bI_some]
      · rw [if_neg (show ¬ nI 4 = (0 : Int32) by decide), if_neg (show ¬ nI 4 = (1 : Int32) by decide), if_neg (show ¬ nI 4 = (2 : Int32) by decide), if_neg (show ¬ nI 4 = (3 : Int32) by decide)]
  · refine ⟨-1, ?_, J, ?_, MF.refl J⟩
    · rw [if_neg (show ¬ w = (0 : Int32) from out_ne (k := 0) hw (by decide) (by decide)), if_neg (show ¬ w = (1 : Int32) from out_ne (k := 1) hw (by decide) (by decide)), if_neg (show ¬ w = (2 : Int32) from out_ne (k := 2) hw (by decide) (by decide)), if_neg (show ¬ w = (3 : Int32) from out_ne (k := 3) hw (by decide) (by decide)), if_neg (show ¬ w = (4 : Int32) from out_ne (k := 4) hw (by decide) (by decide))]
    · rw [in_no (b := 0) (c := 4) rfl rfl (by omega), bI_some, if00]
theorem s_missing8 {I : Mem} {τ : Td} (hW : WF τ) (hT : TX I 3 τ) (hB : BX I τ) {j q : Nat} (hj : j < tS τ) (h1 : 1 ≤ q) (h2 : q ≤ pgN τ j) : f_X8_isMissing (nI (num τ j q)) I = some (if num τ j q ≤ τ 0 ∧ τ (16 + j) = 1 then 1 else 0, I) := by
  have h100 := tS_le hW
  have hN := hW.1.2
  have hP := pP_le hW
  obtain ⟨n1, n2⟩ := num_bd hW hj h1 h2
  have hs := hW.2.2.2.2.2 j (by omega)
  unfold f_X8_isMissing
  rw [if_neg (show ¬ nI (num τ j q) < 1 from nI_nlt (b := 1) n1 (by omega)), show I 4 0 = nI (τ 0) from hT.2.1 0 (by decide)]
  by_cases h : num τ j q ≤ τ 0
  · rw [if_neg (nI_nlt h (by omega)), ck_t (inb_n (show num τ j q < 433 by omega) (by decide)), nI_tn (by omega), (hB.at hj h1 h2).1, ck_t (inb_n (show j < 100 by omega) (by decide)), nI_tn (by omega), show I 8 j = nI (τ (16 + j)) from hT.2.2.2 j (by omega)]
    by_cases h5 : τ (16 + j) = 1
    · rw [if_pos (show nI (τ (16 + j)) = 1 by rw [h5]; rfl), if_pos ⟨h, h5⟩]
    · rw [if_neg (show ¬ nI (τ (16 + j)) = 1 by rw [show τ (16 + j) = 0 by omega]; decide), if_neg (fun c => h5 c.2)]
  · rw [if_pos (nI_lt (by omega) (by omega)), if_neg (fun c => h c.1)]
/-- book(number, what) -/
theorem q_book {I : Mem} {L : Nat} {x : Nat → Nat} {τ : Td} {d : Nat} {us : Nat → Td} (hC : IC I L x τ d us) (hM : IM I L x τ d us) (y w : Int32) : Sm (f_X8_book y w) (f_X9_book y w) I := by
  have hW := hC.wf
  have h100 := tS_le hW
  have hB := hC.book
  have hN := hW.1.2
  have hP := pP_le hW
  have hS4 := hW.2.2.2.1.2
  have hA2 := hA_T hW
  have hpp : pP τ = 2 * hA τ (tS τ) := by unfold pP; omega
  obtain ⟨J, j1, j2, j3, j4⟩ := s_sheetMany hW hM.told
  have hMF := MF.plan j3 j4
  have h64 := to64 (n := pP τ) (by omega)
  by_cases h1 : y.toInt < 1
  · refine Sm_q hC hM (v := -1) ?_ ⟨J, ?_, hMF⟩
    · unfold f_X8_book
      rw [if_pos (show y < 1 from lt_T.mpr h1)]
    · unfold f_X9_book
      rw [j1, bI_some, j2.1, in_no (b := 1) (c := (pP τ : Nat)) rfl h64 (by omega), bI_some, if00]
  rcases arg_cases y (pP τ + 1) with ⟨r, hr, -, rfl⟩ | hy
  rotate_left 1
  · refine Sm_q hC hM (v := -1) ?_ ⟨J, ?_, hMF⟩
    · unfold f_X8_book
      rw [if_neg (show ¬ y < 1 from fun q => h1 (lt_T.mp q)), hB.1.2.1, ← hpp, if_neg (show ¬ y ≤ nI (pP τ) from fun q => by
        have a1 := le_T.mp q
        rw [nI_toInt (by omega)] at a1
        omega)]
    · unfold f_X9_book
      rw [j1, bI_some, j2.1, in_no (b := 1) (c := (pP τ : Nat)) rfl h64 (by omega), bI_some, if00]
  rw [nI_toInt (by omega)] at h1
  obtain ⟨j, q, hj, hq1, hq2, rfl⟩ := num_sur hW (show 1 ≤ r by omega) (show r ≤ pP τ by omega)
  obtain ⟨b7, b8⟩ := hB.at hj hq1 hq2
  have hpg := pgN_le hW hj
  have hsS := scN_S hj
  have hv := (hW.2.2.2.2.1 _ hsS).2
  obtain ⟨hn, hn1, hc⟩ := vld_n hv
  have hpz : pgN τ j = 2 * 2 ^ τ (8 + scN τ j) := (pg_4 hW hsS).symm
  have hA := acU_le (τ (8 + scN τ j)) (τ (12 + scN τ j)) (τ (8 + scN τ j))
  obtain ⟨X, s, u, hPG⟩ := PG_ex hv hq1 (show q ≤ 2 * 2 ^ τ (8 + scN τ j) by omega)
  have hSh := hC.sheet hsS
  have e8 : f_X8_book (nI (num τ j q)) w I = (if w = (0 : Int32) then some (nI j, I) else (if w = (1 : Int32) then some (nI q, I) else (if w = (2 : Int32) then some (nI s, I) else (if w = (3 : Int32) then some (nI (X % 2 ^ acU (τ (8 + scN τ j)) (τ (12 + scN τ j)) (τ (8 + scN τ j))), I) else (if w = (4 : Int32) then some (nI (X / 2 ^ acU (τ (8 + scN τ j)) (τ (12 + scN τ j)) (τ (8 + scN τ j))), I) else (if w = (5 : Int32) then some (nI u, I) else (if w = (6 : Int32) then some (nI (ouN τ j q), I) else (if w = (7 : Int32) then some ((100000 : Int32) + mvI τ j q, I) else (if w = (8 : Int32) then some (if num τ j q ≤ τ 0 ∧ τ (16 + j) = 1 then 1 else 0, I) else some ((-1 : Int32), I)))))))))) := by
    unfold f_X8_book
    rw [if_neg (show ¬ nI (num τ j q) < 1 from nI_nlt (b := 1) (by omega) (by omega)), hB.1.2.1, ← hpp, if_pos (nI_le (show num τ j q ≤ pP τ by omega) (by omega)), ck_t (inb_n (show num τ j q < 433 by omega) (by decide)), ck_t (inb_n (show num τ j q < 433 by omega) (by decide)), nI_tn (by omega), b7, b8, ck_t (inb_n (show j < 100 by omega) (by decide)), nI_tn (by omega), (hB.1.2.2 j hj).1, ck_t (inb_n (show scN τ j < 4 by omega) (by decide)), nI_tn (by omega), s_sideOf hPG hv hSh hq1 (by omega), bI_some, s_columnOf hPG hv hSh hq1 (by omega), bI_some, s_rowOf hPG hv hSh hq1 (by omega), bI_some, s_isOver hPG hv hSh hq1 (by omega), bI_some, s_out hW hC.told hB.1 hj hq1 hq2, bI_some, s_moved hW hC.told hB.1 hj hq1 hq2, bI_some, s_missing8 hW hC.told hB hj hq1 hq2, bI_some]
    have hlast : (if (if num τ j q ≤ τ 0 ∧ τ (16 + j) = 1 then (1 : Int32) else 0) = 0 then some ((0 : Int32), I) else some ((1 : Int32), I)) = some ((if num τ j q ≤ τ 0 ∧ τ (16 + j) = 1 then (1 : Int32) else 0), I) := by
      by_cases h : num τ j q ≤ τ 0 ∧ τ (16 + j) = 1
      · rw [if_pos h, if10]
      · rw [if_neg h, if00]
    rw [hlast]
  rcases arg_cases w 9 with ⟨i, hi, -, rfl⟩ | hw
  rotate_left 1
  · refine Sm_q hC hM (v := -1) ?_ ⟨J, ?_, hMF⟩
    · rw [e8, if_neg (show ¬ w = (0 : Int32) from out_ne (k := 0) hw (by decide) (by decide)), if_neg (show ¬ w = (1 : Int32) from out_ne (k := 1) hw (by decide) (by decide)), if_neg (show ¬ w = (2 : Int32) from out_ne (k := 2) hw (by decide) (by decide)), if_neg (show ¬ w = (3 : Int32) from out_ne (k := 3) hw (by decide) (by decide)), if_neg (show ¬ w = (4 : Int32) from out_ne (k := 4) hw (by decide) (by decide)), if_neg (show ¬ w = (5 : Int32) from out_ne (k := 5) hw (by decide) (by decide)), if_neg (show ¬ w = (6 : Int32) from out_ne (k := 6) hw (by decide) (by decide)), if_neg (show ¬ w = (7 : Int32) from out_ne (k := 7) hw (by decide) (by decide)), if_neg (show ¬ w = (8 : Int32) from out_ne (k := 8) hw (by decide) (by decide))]
    · unfold f_X9_book
      rw [j1, bI_some, j2.1, in_k (b := 1) (c := pP τ) (by omega) rfl h64 (by omega) (by omega), bI_some, if10, in_no (b := 0) (c := 8) rfl rfl (by omega), bI_some, if00]
  -- the reference's side
  have hsk := j2.sk j q
  have hMs : MF J (skM J j q) := ⟨fun r hr => skM_row (by omega), skM_ne (by decide) (by decide), skM_ne (by decide) (by decide), skM_row (by decide), skM_row (by decide), skM_row (by decide)⟩
  obtain ⟨N, n1, n2, n3, n4, n5⟩ := s_lays hW hsk.2.2 hsS
  have hMN := hMF.trans (hMs.trans (MF.lays n4 n5))
  have hPN : PN N τ := hsk.rows (n5 20 (by decide) (by decide) (by decide) (by decide)) (n4 102 (by decide) (by decide) (by decide) (by decide) (by decide) (by decide) (by decide)) (n4 91 (by decide) (by decide) (by decide) (by decide) (by decide) (by decide) (by decide))
  have n22 : N 89 22 = nI q := by rw [n5 22 (by decide) (by decide) (by decide) (by decide), skM_at2]
  obtain ⟨p1, p2, p3, p4, p5, p6, p7, p8⟩ := hPG
  obtain ⟨f7, f8, f9⟩ := n2.2 (q - 1) (by omega)
  obtain ⟨d1, d2⟩ := divT (acU (τ (8 + scN τ j)) (τ (12 + scN τ j)) (τ (8 + scN τ j))) (by omega) X (by have := pow4 hn; omega)
  have hckq : ∀ {α : Type} (z : Option α), ck (inb (nI (q - 1)) 32) z = z := fun z => ck_t (inb_n (show q - 1 < 32 by omega) (by decide))
  have e9 : f_X9_book (nI (num τ j q)) (nI i) I = (if nI i = (0 : Int32) then some (nI j, N) else (if nI i = (1 : Int32) then some (nI q, N) else (if nI i = (2 : Int32) then some (nI s, N) else (if nI i = (3 : Int32) then some (nI (X % 2 ^ acU (τ (8 + scN τ j)) (τ (12 + scN τ j)) (τ (8 + scN τ j))), N) else (if nI i = (4 : Int32) then some (nI (X / 2 ^ acU (τ (8 + scN τ j)) (τ (12 + scN τ j)) (τ (8 + scN τ j))), N) else (if nI i = (5 : Int32) then some (nI u, N) else (if nI i = (6 : Int32) then some (nI (ouN τ j q), N) else (if nI i = (7 : Int32) then some ((100000 : Int32) + mvI τ j q, N) else some (if num τ j q ≤ τ 0 ∧ τ (16 + j) = 1 then 1 else 0, N))))))))) := by
    unfold f_X9_book
    rw [j1, bI_some, j2.1, in_k (b := 1) (c := pP τ) (by omega) rfl h64 (by omega) (by omega), bI_some, if10, in_k (b := 0) (c := 8) (by omega) rfl rfl (Nat.zero_le _) (by omega), bI_some, if10, s_seek hW j2 hj hq1 hq2, bV_some, skM_at1, skM_at2, s_schemeOf9 hW hsk hj, bI_some, n1, bV_some, n22, show nI q - 1 = nI (q - 1) from nI_sub (b := 1) hq1 (by omega), hckq, hckq, hckq, hckq, nI_tn (by omega), f7, f8, f9, p4, p5, p6, n2.1, ck_t (nz_ck (pow_nz (by omega))), ck_t (nz_ck (pow_nz (by omega))), d2, d1, s_outOf9 hW hPN hj hq1 hq2, bI_some, s_movedOf9 hW hPN hj hq1 hq2, bI_some, hPN.2.2.1 0 (by decide), show (28 : Int32) + nI j = nI (28 + j) from nI_add 28 j, ck_t (inb_n (show 28 + j < 132 by omega) (by decide)), nI_tn (by omega), hPN.2.2.2.2.1 j (by omega), Int32.add_comm (mvI τ j q) 100000]
    have hs1 := hW.2.2.2.2.2 j (by omega)
    have hlast : (if nI (τ 0) < nI (num τ j q) then some ((0 : Int32), N) else some (nI (τ (16 + j)), N)) = some ((if num τ j q ≤ τ 0 ∧ τ (16 + j) = 1 then (1 : Int32) else 0), N) := by
      by_cases h : τ 0 < num τ j q
      · rw [if_pos (nI_lt h (by omega)), if_neg (by omega)]
      · rw [if_neg (nI_nlt (by omega) (by omega))]
        by_cases h5 : τ (16 + j) = 1
        · rw [if_pos ⟨by omega, h5⟩, h5]
          rfl
        · rw [if_neg (fun c => h5 c.2), show τ (16 + j) = 0 by omega]
          rfl
    rw [hlast]
  have hex : ∃ v, f_X8_book (nI (num τ j q)) (nI i) I = some (v, I) ∧ f_X9_book (nI (num τ j q)) (nI i) I = some (v, N) := by
    rw [e8, e9]
    match i, hi with
    | 0, _ => exact ⟨_, rfl, rfl⟩
    | 1, _ => exact ⟨_, rfl, rfl⟩
    | 2, _ => exact ⟨_, rfl, rfl⟩
    | 3, _ => exact ⟨_, rfl, rfl⟩
    | 4, _ => exact ⟨_, rfl, rfl⟩
    | 5, _ => exact ⟨_, rfl, rfl⟩
    | 6, _ => exact ⟨_, rfl, rfl⟩
    | 7, _ => exact ⟨_, rfl, rfl⟩
    | 8, _ => exact ⟨_, rfl, rfl⟩
  obtain ⟨v, v8, v9⟩ := hex
  exact Sm_q hC hM (v := v) v8 ⟨N, v9, hMN⟩
