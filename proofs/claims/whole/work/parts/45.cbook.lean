/-! THE BOOK: the class -/
theorem s_pg7 {I : Mem} {τ : Td} (hW : WF τ) (hT : TX I 3 τ) {j : Nat} (hj : j < tS τ) : f_X7_pagesOf (nI (scN τ j)) I = some (nI (pgN τ j), I) := by
  rw [s_pagesOf7 hW hT (scN_S hj), pg_4 hW (scN_S hj)]
  rfl
/-- j sheets are in the book -/
def BP (I : Mem) (τ : Td) (j : Nat) : Prop := I 84 0 = nI j ∧ I 84 1 = nI (2 * hA τ j) ∧ ∀ i, i < j → I 85 i = nI (scN τ i) ∧ I 86 i = nI (2 * hA τ i)
theorem BP.rows {I I' : Mem} {τ : Td} {j : Nat} (h : BP I τ j) (e : ∀ r, 84 ≤ r → r ≤ 86 → I' r = I r) : BP I' τ j := by
  unfold BP
  rw [e 84 (by decide) (by decide), e 85 (by decide) (by decide), e 86 (by decide) (by decide)]
  exact h
theorem s_addSheet {I : Mem} {τ : Td} (hW : WF τ) {j : Nat} (hj : j < tS τ) (h : BP I τ j) : ∃ I', f_X0_addSheet (nI (scN τ j)) (nI (pgN τ j)) I = some I' ∧ BP I' τ (j + 1) ∧ ∀ r, r < 84 ∨ 87 ≤ r → I' r = I r := by
  obtain ⟨h0, h1, h2⟩ := h
  have hT := tS_le hW
  have hA1 := hA_lt (τ := τ) hj
  have hA2 := hA_T hW
  have hP := pP_le hW
  unfold pP at hP
  have e2 : 2 * hA τ j + pgN τ j = 2 * hA τ (j + 1) := by
    show _ = 2 * (hA τ j + 2 * zt τ (scN τ j))
    unfold pgN
    omega
  have hA3 := hA_le (τ := τ) (show j + 1 ≤ tS τ from hj)
  unfold f_X0_addSheet
  rw [h0, h1, if_neg (show ¬ (100 : Int32) ≤ nI j from nI_ge (b := 100) (by omega) (by decide)), nI_add, e2, if_neg (show ¬ (432 : Int32) < nI (2 * hA τ (j + 1)) from nI_nlt (a := 432) (by omega) (by decide)), ck_t (inb_n (show j < 100 by omega) (by decide)), nI_tn (by omega), stm_row (show 84 ≠ 85 by decide), h0, h1, ck_t (inb_n (show j < 100 by omega) (by decide)), nI_tn (by omega), stm_row (show 84 ≠ 86 by decide), stm_row (show 84 ≠ 85 by decide), h0, stm_ne (show 1 ≠ 0 by decide), stm_row (show 84 ≠ 86 by decide), stm_row (show 84 ≠ 85 by decide), h1, nI_add, e2, nI_1]
  refine ⟨_, rfl, ⟨?_, ?_, ?_⟩, ?_⟩
  · rw [stm_ne (by decide), stm_at]
  · rw [stm_at]
  · intro i hi
    rw [stm_row (show 85 ≠ 84 by decide), stm_row (show 85 ≠ 84 by decide), stm_row (show 85 ≠ 86 by decide), stm_row (show 86 ≠ 84 by decide), stm_row (show 86 ≠ 84 by decide)]
    by_cases he : i = j
    · rw [he, stm_at, stm_at]
      exact ⟨rfl, rfl⟩
    · rw [stm_ne he, stm_ne he, stm_row (show 86 ≠ 85 by decide)]
      exact h2 i (by omega)
  · intro r hr
    rw [stm_row (by omega), stm_row (by omega), stm_row (by omega), stm_row (by omega)]
theorem s_arr23 {I : Mem} {τ : Td} (hW : WF τ) (hT : TX I 3 τ) (hPl : ∀ k, k < τ 3 → I 83 k = nI (plF τ (τ 0) k)) {k : Nat} (hk : k < τ 3) (h : BP I τ (cum τ k)) (K50 : Int32 → Mem → Option Mem) : ∃ I', l_X0_arrange_84_3_76_23 K50 fuel (nI k) 0 I = K50 (nI k) I' ∧ BP I' τ (cum τ (k + 1)) ∧ ∀ r, r < 84 ∨ 87 ≤ r → I' r = I r := by
  have hS := hW.2.2.2.1.2
  have h100 := tS_le hW
  have hle : ∀ a, a ≤ 4 → cum τ a ≤ tS τ := by
    obtain ⟨c1, c2, c3, c4⟩ := cum4 τ
    have c0 : cum τ 0 = 0 := rfl
    intro a ha
    unfold tS
    match a, ha with
    | 0, _ => omega
    | 1, _ => omega
    | 2, _ => omega
    | 3, _ => omega
    | 4, _ => rw [c4]; exact Nat.le_refl _
  have hk1 := hle (k + 1) (by omega)
  have hk2 : cum τ (k + 1) = cum τ k + pK τ k := rfl
  have key := inv_loop (fun f x M => l_X0_arrange_84_3_76_23 K50 f (nI k) x M) (fun M => K50 (nI k) M) (fun i M => BP M τ (cum τ k + i) ∧ ∀ r, r < 84 ∨ 87 ≤ r → M r = I r) 0 (pK τ k) (Nat.zero_le _) ?_ ?_ fuel I (by rw [fuel_v]; omega) ⟨h, fun _ _ => rfl⟩
  · obtain ⟨I', ⟨a1, a2⟩, a3⟩ := key
    exact ⟨I', a3, a1, a2⟩
  · intro f i M _ hi ⟨b1, b2⟩
    have hj : cum τ k + i < tS τ := by omega
    have hsc := scN_in (τ := τ) (show k < 4 by omega) (show cum τ k ≤ cum τ k + i by omega) (by omega)
    have hTM : TX M 3 τ := hT.rows (fun r _ _ => b2 r (by omega))
    obtain ⟨M', c1, c2, c3⟩ := s_addSheet hW hj b1
    refine ⟨M', ⟨c2, fun r hr => by rw [c3 r hr, b2 r hr]⟩, ?_⟩
    show l_X0_arrange_84_3_76_23 K50 (f + 1) (nI k) (nI i) M = l_X0_arrange_84_3_76_23 K50 f (nI k) (nI (i + 1)) M'
    rw [u_X0_arrange_84_3_76_23]
    unfold b_X0_arrange_84_3_76_23
    have hpg := s_pg7 hW hTM hj
    rw [hsc] at c1 hpg
    rw [ck_t (inb_n (show k < 4 by omega) (by decide)), nI_tn (by omega), b2 83 (by decide), hPl k hk, if_neg (show ¬ nI (plF τ (τ 0) k) ≤ nI i from nI_ge hi (by
      have : pK τ k = plF τ (τ 0) k := rfl
      omega)), hpg, bI_some, c1, bV_some, nI_1]
  · intro f M ⟨b1, b2⟩
    show l_X0_arrange_84_3_76_23 K50 (f + 1) (nI k) (nI (pK τ k)) M = _
    rw [u_X0_arrange_84_3_76_23]
    unfold b_X0_arrange_84_3_76_23
    rw [ck_t (inb_n (show k < 4 by omega) (by decide)), nI_tn (by omega), b2 83 (by decide), hPl k hk, if_pos (show nI (plF τ (τ 0) k) ≤ nI (pK τ k) from nI_le (Nat.le_refl _) (by omega))]
/-- the sheets of the book -/
def BS (I : Mem) (τ : Td) : Prop := BP I τ (tS τ)
theorem s_numberOf {I : Mem} {τ : Td} (hW : WF τ) (hT : TX I 3 τ) (hB : BS I τ) {j q : Nat} (hj : j < tS τ) (h1 : 1 ≤ q) (h2 : q ≤ pgN τ j) : f_X0_numberOf_84_3 (nI j) (nI q) I = some (nI (num τ j q), I) := by
  have h100 := tS_le hW
  obtain ⟨b0, b1, b2⟩ := hB
  have hA1 := hA_lt (τ := τ) hj
  have hA2 := hA_T hW
  have hP := pP_le hW
  have hpg := pgN_le hW hj
  have hpp : pP τ = 2 * hA τ (tS τ) := by unfold pP; omega
  have hpz : pgN τ j = 4 * zt τ (scN τ j) := rfl
  unfold f_X0_numberOf_84_3 num
  have hm := hT.2.1 2 (by decide)
  have hm2 := hW.2.2.1
  rw [show I 4 2 = nI (τ 2) from hm, ck_t (inb_n (show j < 100 by omega) (by decide)), ck_t (inb_n (show j < 100 by omega) (by decide)), nI_tn (by omega), (b2 j hj).1, (b2 j hj).2, s_pg7 hW hT hj, bI_some, b1, nI_half (by omega), nI_half (by omega), show 2 * hA τ j / 2 = hA τ j by omega, show pgN τ j / 2 = 2 * zt τ (scN τ j) by omega]
  by_cases hmm : τ 2 = 1
  · rw [if_pos (show nI (τ 2) = 1 by rw [hmm]; rfl), if_pos hmm]
    by_cases hq : 2 * zt τ (scN τ j) < q
    · rw [if_pos (nI_lt hq (by omega)), if_pos hq, ← hpp, nI_sub (by omega) (by omega), nI_sub h2 (by omega), nI_sub (by omega) (by omega)]
    · rw [if_neg (nI_nlt (by omega) (by omega)), if_neg hq, nI_add]
  · rw [if_neg (show ¬ nI (τ 2) = 1 by rw [show τ 2 = 0 by omega]; decide), if_neg hmm, ck_t (inb_n (show j < 100 by omega) (by decide)), nI_add]
/-- pages placed -/
def PL (I : Mem) (τ : Td) (j q : Nat) : Prop := ∀ j' q', j' < tS τ → 1 ≤ q' → q' ≤ pgN τ j' → (j' < j ∨ (j' = j ∧ q' < q)) → I 87 (num τ j' q') = nI j' ∧ I 88 (num τ j' q') = nI q'
theorem s_placePages {I : Mem} {τ : Td} (hW : WF τ) (hT : TX I 3 τ) (hB : BS I τ) {j : Nat} (hj : j < tS τ) (h : PL I τ j 1) : ∃ I', f_X0_placePages_84_3 (nI j) I = some I' ∧ PL I' τ (j + 1) 1 ∧ ∀ r, r ≠ 87 → r ≠ 88 → I' r = I r := by
  have h100 := tS_le hW
  have hpg := pgN_le hW hj
  have hpg4 := pgN_pos τ j
  have hP := pP_le hW
  unfold f_X0_placePages_84_3
  have key := inv_loop (fun f x M => l_X0_placePages_84_3_2 (fun I8 => some I8) f (nI j) x M) (fun M => some M) (fun q M => PL M τ j q ∧ ∀ r, r ≠ 87 → r ≠ 88 → M r = I r) 1 (pgN τ j + 1) (by omega) ?_ ?_ fuel I (by rw [fuel_v]; omega) ⟨h, fun _ _ _ => rfl⟩
  · obtain ⟨I', ⟨a1, a2⟩, a3⟩ := key
    refine ⟨I', a3, ?_, a2⟩
    intro j' q' c1 c2 c3 c4
    refine a1 j' q' c1 c2 c3 ?_
    by_cases e : j' = j
    · right
      subst e
      exact ⟨rfl, by omega⟩
    · left
      omega
  · intro f q M hq1 hq2 ⟨b1, b2⟩
    have hTM : TX M 3 τ := hT.rows (fun r _ _ => b2 r (by omega) (by omega))
    have hBM : BS M τ := BP.rows hB (fun r _ _ => b2 r (by omega) (by omega))
    obtain ⟨n1, n2⟩ := num_bd hW hj hq1 (show q ≤ pgN τ j by omega)
    refine ⟨stm (stm M 87 (num τ j q) (nI j)) 88 (num τ j q) (nI q), ⟨?_, ?_⟩, ?_⟩
    · intro j' q' c1 c2 c3 c4
      rw [stm_row (show 87 ≠ 88 by decide)]
      by_cases e : j' = j ∧ q' = q
      · obtain ⟨rfl, rfl⟩ := e
        rw [stm_at, stm_at]
        exact ⟨rfl, rfl⟩
      · have hne : num τ j' q' ≠ num τ j q := fun he => e (num_inj hW c1 c2 c3 hj hq1 (by omega) he)
        rw [stm_ne hne, stm_ne hne, stm_row (show 88 ≠ 87 by decide)]
        refine b1 j' q' c1 c2 c3 ?_
        rcases c4 with c | ⟨c, c'⟩
        · exact Or.inl c
        · exact Or.inr ⟨c, by
            have : q' ≠ q := fun h => e ⟨c, h⟩
            omega⟩
    · intro r h1 h2
      rw [stm_row h2, stm_row h1, b2 r h1 h2]
    · show l_X0_placePages_84_3_2 _ (f + 1) (nI j) (nI q) M = l_X0_placePages_84_3_2 _ f (nI j) (nI (q + 1)) _
      rw [u_X0_placePages_84_3_2]
      unfold b_X0_placePages_84_3_2
      rw [ck_t (inb_n (show j < 100 by omega) (by decide)), nI_tn (by omega), (hBM.2.2 j hj).1, s_pg7 hW hTM hj, bI_some, if_neg (nI_nlt (by omega) (by omega)), s_numberOf hW hTM hBM hj hq1 (by omega), bI_some, if_neg (show ¬ nI (num τ j q) < 1 from nI_nlt (a := num τ j q) (b := 1) n1 (by omega)), if_neg (show ¬ (432 : Int32) < nI (num τ j q) from nI_nlt (a := 432) (by omega) (by decide)), ck_t (inb_n (show num τ j q < 433 by omega) (by decide)), ck_t (inb_n (show num τ j q < 433 by omega) (by decide)), nI_tn (by omega), nI_1]
  · intro f M ⟨b1, b2⟩
    have hTM : TX M 3 τ := hT.rows (fun r _ _ => b2 r (by omega) (by omega))
    have hBM : BS M τ := BP.rows hB (fun r _ _ => b2 r (by omega) (by omega))
    show l_X0_placePages_84_3_2 _ (f + 1) (nI j) (nI (pgN τ j + 1)) M = _
    rw [u_X0_placePages_84_3_2]
    unfold b_X0_placePages_84_3_2
    rw [ck_t (inb_n (show j < 100 by omega) (by decide)), nI_tn (by omega), (hBM.2.2 j hj).1, s_pg7 hW hTM hj, bI_some, if_pos (nI_lt (Nat.lt_succ_self _) (by omega))]
/-- the book that the class keeps -/
def BX (I : Mem) (τ : Td) : Prop := BS I τ ∧ PL I τ (tS τ) 1
theorem s_arrange {I : Mem} {τ : Td} (hW : WF τ) (hT : TX I 3 τ) (hPl : ∀ k, k < τ 3 → I 83 k = nI (plF τ (τ 0) k)) : ∃ I', f_X0_arrange_84_3_76 I = some I' ∧ BX I' τ ∧ ∀ r, r < 84 ∨ 89 ≤ r → I' r = I r := by
  have hS := hW.2.2.2.1.2
  have h100 := tS_le hW
  have hA2 := hA_T hW
  unfold f_X0_arrange_84_3_76
  generalize hM0 : stm (stm I 84 0 0) 84 1 0 = M0
  have hr0 : ∀ r, r ≠ 84 → M0 r = I r := fun r h => by rw [← hM0, stm_row h, stm_row h]
  have hB0 : BP M0 τ 0 := by
    refine ⟨?_, ?_, fun i hi => absurd hi (Nat.not_lt_zero i)⟩
    · rw [← hM0, stm_ne (by decide), stm_at]; rfl
    · rw [← hM0, stm_at]; rfl
  have key := inv_loop (fun f x M => l_X0_arrange_84_3_76_12 (fun I7 => l_X0_arrange_84_3_76_58 (fun I9 => some I9) fuel (0 : Int32) I7) f x M) (fun I7 => l_X0_arrange_84_3_76_58 (fun I9 => some I9) fuel (0 : Int32) I7) (fun k M => BP M τ (cum τ k) ∧ ∀ r, r < 84 ∨ 87 ≤ r → M r = I r) 0 (τ 3) (Nat.zero_le _) ?_ ?_ fuel M0 (by rw [fuel_v]; omega) ⟨hB0, fun r hr => hr0 r (by omega)⟩
  · obtain ⟨I1, ⟨a1, a2⟩, a3⟩ := key
    rw [show nI 0 = 0 from rfl] at a3
    rw [a3]
    rw [cum_S hW] at a1
    have hT1 : TX I1 3 τ := hT.rows (fun r _ _ => a2 r (by omega))
    have key := inv_loop (fun f x M => l_X0_arrange_84_3_76_58 (fun I9 => some I9) f x M) (fun I9 => some I9) (fun j M => PL M τ j 1 ∧ BS M τ ∧ ∀ r, r < 84 ∨ 89 ≤ r → M r = I r) 0 (tS τ) (Nat.zero_le _) ?_ ?_ fuel I1 (by rw [fuel_v]; omega) ⟨fun j' q' _ _ _ h => by omega, a1, fun r hr => a2 r (by omega)⟩
    · obtain ⟨I2, ⟨c1, c2, c3⟩, c4⟩ := key
      exact ⟨I2, c4, ⟨c2, c1⟩, c3⟩
    · intro f j M _ hj ⟨b1, b2, b3⟩
      have hTM : TX M 3 τ := hT.rows (fun r _ _ => b3 r (by omega))
      obtain ⟨M', d1, d2, d3⟩ := s_placePages hW hTM b2 hj b1
      refine ⟨M', ⟨d2, BP.rows b2 (fun r _ _ => d3 r (by omega) (by omega)), fun r hr => by rw [d3 r (by omega) (by omega), b3 r hr]⟩, ?_⟩
      show l_X0_arrange_84_3_76_58 _ (f + 1) (nI j) M = l_X0_arrange_84_3_76_58 _ f (nI (j + 1)) M'
      rw [u_X0_arrange_84_3_76_58]
      unfold b_X0_arrange_84_3_76_58
      rw [b2.1, if_neg (nI_ge hj (by omega)), d1, bV_some, nI_1]
    · intro f M ⟨b1, b2, b3⟩
      show l_X0_arrange_84_3_76_58 _ (f + 1) (nI (tS τ)) M = _
      rw [u_X0_arrange_84_3_76_58]
      unfold b_X0_arrange_84_3_76_58
      rw [b2.1, if_pos (nI_le (Nat.le_refl _) (by omega))]
  · intro f k M _ hk ⟨b1, b2⟩
    have hTM : TX M 3 τ := hT.rows (fun r _ _ => b2 r (by omega))
    obtain ⟨M', d1, d2, d3⟩ := s_arr23 hW hTM (fun k hk => by rw [b2 83 (by decide)]; exact hPl k hk) hk b1 (fun (z5 : Int32) I6 => l_X0_arrange_84_3_76_12 (fun I7 => l_X0_arrange_84_3_76_58 (fun I9 => some I9) fuel (0 : Int32) I7) f (z5 + (1 : Int32)) I6)
    refine ⟨M', ⟨d2, fun r hr => by rw [d3 r hr, b2 r hr]⟩, ?_⟩
    show l_X0_arrange_84_3_76_12 _ (f + 1) (nI k) M = l_X0_arrange_84_3_76_12 _ f (nI (k + 1)) M'
    rw [u_X0_arrange_84_3_76_12]
    unfold b_X0_arrange_84_3_76_12
    rw [hTM.1, if_neg (nI_ge hk (by omega)), d1, nI_1]
  · intro f M ⟨b1, b2⟩
    show l_X0_arrange_84_3_76_12 _ (f + 1) (nI (τ 3)) M = _
    rw [u_X0_arrange_84_3_76_12]
    unfold b_X0_arrange_84_3_76_12
    rw [b2 3 (by decide), hT.1, if_pos (nI_le (Nat.le_refl _) (by omega))]
theorem BX.at {I : Mem} {τ : Td} (h : BX I τ) {j q : Nat} (hj : j < tS τ) (h1 : 1 ≤ q) (h2 : q ≤ pgN τ j) : I 87 (num τ j q) = nI j ∧ I 88 (num τ j q) = nI q := h.2 j q hj h1 h2 (Or.inl hj)
theorem BX.rows {I I' : Mem} {τ : Td} (h : BX I τ) (e : ∀ r, 84 ≤ r → r ≤ 88 → I' r = I r) : BX I' τ := by
  refine ⟨BP.rows h.1 (fun r a b => e r a (by omega)), ?_⟩
  intro j q a b c d
  rw [e 87 (by decide) (by decide), e 88 (by decide) (by decide)]
  exact h.2 j q a b c d
/-- how far page q of sheet j comes out, and the most -/
def ouN (τ : Td) (j q : Nat) : Nat := (if 2 * zt τ (scN τ j) ≤ 2 * ((q - 1) / 2) then 2 * zt τ (scN τ j) - 1 - (q - 1) / 2 else (q - 1) / 2) + (if τ 2 = 1 then hA τ j / 2 else 0)
def moN (τ : Td) (j : Nat) : Nat := if τ 2 = 1 then un τ (τ 0) - 1 else zt τ (scN τ j) - 1
theorem s_out {I : Mem} {τ : Td} (hW : WF τ) (hT : TX I 3 τ) (hB : BS I τ) {j q : Nat} (hj : j < tS τ) (h1 : 1 ≤ q) (h2 : q ≤ pgN τ j) : f_X0_out_84_3 (nI j) (nI q) I = some (nI (ouN τ j q), I) := by
  have h100 := tS_le hW
  have hpg := pgN_le hW hj
  have hpg4 := pgN_pos τ j
  have hpz : pgN τ j = 4 * zt τ (scN τ j) := rfl
  have hA1 := hA_lt (τ := τ) hj
  have hA2 := hA_T hW
  have hP := pP_le hW
  have hpp : pP τ = 2 * hA τ (tS τ) := by unfold pP; omega
  unfold f_X0_out_84_3 ouN
  have hm2 := hW.2.2.1
  obtain ⟨b0, b1, b2⟩ := hB
  have e1 : nI q - 1 = nI (q - 1) := nI_sub (b := 1) h1 (by omega)
  have e2 : nI (2 * zt τ (scN τ j)) - 1 = nI (2 * zt τ (scN τ j) - 1) := nI_sub (b := 1) (by omega) (by omega)
  rw [ck_t (inb_n (show j < 100 by omega) (by decide)), nI_tn (by omega), (b2 j hj).1, s_pg7 hW hT hj, bI_some, show I 4 2 = nI (τ 2) from hT.2.1 2 (by decide), ck_t (inb_n (show j < 100 by omega) (by decide)), (b2 j hj).2, nI_half (by omega), show pgN τ j / 2 = 2 * zt τ (scN τ j) by omega, e1, e2, nI_half (by omega), nI_sub (by omega) (by omega), show nI (2 * hA τ j) / 4 = nI (2 * hA τ j / 4) from nI_div (b := 4) (by omega) (by decide), show 2 * hA τ j / 4 = hA τ j / 2 by omega]
  have e3 : (if nI (2 * zt τ (scN τ j) - 1 - (q - 1) / 2) < nI ((q - 1) / 2) then nI (2 * zt τ (scN τ j) - 1 - (q - 1) / 2) else nI ((q - 1) / 2)) = nI (if 2 * zt τ (scN τ j) ≤ 2 * ((q - 1) / 2) then 2 * zt τ (scN τ j) - 1 - (q - 1) / 2 else (q - 1) / 2) := by
    by_cases h : 2 * zt τ (scN τ j) ≤ 2 * ((q - 1) / 2)
    · rw [if_pos (nI_lt (by omega) (by omega)), if_pos h]
    · rw [if_neg (nI_nlt (by omega) (by omega)), if_neg h]
  rw [e3]
  by_cases hmm : τ 2 = 1
  · rw [if_pos (show nI (τ 2) = 1 by rw [hmm]; rfl), if_pos hmm, nI_add]
  · rw [if_neg (show ¬ nI (τ 2) = 1 by rw [show τ 2 = 0 by omega]; decide), if_neg hmm, Nat.add_zero]
theorem s_mostOut {I : Mem} {τ : Td} (hW : WF τ) (hT : TX I 3 τ) (hB : BS I τ) {j : Nat} (hj : j < tS τ) : f_X0_mostOut_84_3 (nI j) I = some (nI (moN τ j), I) := by
  have h100 := tS_le hW
  have hpg := pgN_le hW hj
  have hpz : pgN τ j = 4 * zt τ (scN τ j) := rfl
  have hz := zt_pos τ (scN τ j)
  have hA1 := hA_lt (τ := τ) hj
  have hA2 := hA_T hW
  have hP := pP_le hW
  have hpp : pP τ = 4 * un τ (τ 0) := rfl
  have hm2 := hW.2.2.1
  obtain ⟨b0, b1, b2⟩ := hB
  unfold f_X0_mostOut_84_3 moN
  rw [ck_t (inb_n (show j < 100 by omega) (by decide)), nI_tn (by omega), (b2 j hj).1, s_pg7 hW hT hj, bI_some, show I 4 2 = nI (τ 2) from hT.2.1 2 (by decide), b1, show nI (2 * hA τ (tS τ)) / 4 = nI (2 * hA τ (tS τ) / 4) from nI_div (b := 4) (by omega) (by decide), show nI (pgN τ j) / 4 = nI (pgN τ j / 4) from nI_div (b := 4) (by omega) (by decide), show 2 * hA τ (tS τ) / 4 = un τ (τ 0) by omega, show pgN τ j / 4 = zt τ (scN τ j) by omega]
  by_cases hmm : τ 2 = 1
  · rw [if_pos (show nI (τ 2) = 1 by rw [hmm]; rfl), if_pos hmm, show nI (un τ (τ 0)) - 1 = nI (un τ (τ 0) - 1) from nI_sub (b := 1) (by omega) (by omega)]
  · rw [if_neg (show ¬ nI (τ 2) = 1 by rw [show τ 2 = 0 by omega]; decide), if_neg hmm, show nI (zt τ (scN τ j)) - 1 = nI (zt τ (scN τ j) - 1) from nI_sub (b := 1) (by omega) (by omega)]
/-- how far page q of sheet j is moved -/
def mvI (τ : Td) (j q : Nat) : Int32 := nI (τ 1) * nI (ouN τ j q) - nI (τ 1) * nI (moN τ j) / 2
theorem s_moved {I : Mem} {τ : Td} (hW : WF τ) (hT : TX I 3 τ) (hB : BS I τ) {j q : Nat} (hj : j < tS τ) (h1 : 1 ≤ q) (h2 : q ≤ pgN τ j) : f_X0_moved_84_3 (nI j) (nI q) I = some (mvI τ j q, I) := by
  unfold f_X0_moved_84_3 mvI
  rw [s_out hW hT hB hj h1 h2, bI_some, s_mostOut hW hT hB hj, bI_some, show I 4 1 = nI (τ 1) from hT.2.1 1 (by decide)]
