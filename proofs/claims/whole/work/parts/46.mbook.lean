/-! THE BOOK: the reference -/
/-- the reference knows the plan -/
def PN (I : Mem) (τ : Td) : Prop := I 89 20 = nI (pP τ) ∧ (∀ k, k < 4 → I 102 k = nI (pK τ k)) ∧ TM (I 91) τ
theorem PN.rows {I I' : Mem} {τ : Td} (h : PN I τ) (e1 : I' 89 20 = I 89 20) (e2 : I' 102 = I 102) (e3 : I' 91 = I 91) : PN I' τ := by
  unfold PN
  rw [e1, e2, e3]
  exact h
theorem s_sheetMany {I : Mem} {τ : Td} (hW : WF τ) (hT : TM (I 91) τ) : ∃ I', f_X9_sheetMany I = some (nI (tS τ), I') ∧ PN I' τ ∧ (∀ r, r ≠ 89 → r ≠ 101 → r ≠ 102 → I' r = I r) ∧ ∀ j, j ≠ 20 → I' 89 j = I 89 j := by
  obtain ⟨I', a1, a2, a3, a4, a5⟩ := s_findPlan hW hT hW.1.2
  refine ⟨I', ?_, ⟨a2, a3, by rw [a4 91 (by decide) (by decide) (by decide)]; exact hT⟩, a4, a5⟩
  unfold f_X9_sheetMany
  rw [hT.1 0 (by decide), a1, bV_some, a3 0 (by decide), a3 1 (by decide), a3 2 (by decide), a3 3 (by decide), nI_add, nI_add, nI_add]
  rfl
theorem cum_le {τ : Td} : ∀ (d k : Nat), cum τ k ≤ cum τ (k + d)
  | 0, _ => Nat.le_refl _
  | d + 1, k => by
    have := cum_le (τ := τ) d k
    show cum τ k ≤ cum τ (k + d) + pK τ (k + d)
    omega
theorem s_schemeOf9 {I : Mem} {τ : Td} (hW : WF τ) (h : PN I τ) {j : Nat} (hj : j < tS τ) : f_X9_schemeOf (nI j) I = some (nI (scN τ j), I) := by
  obtain ⟨h1, h2, h3⟩ := scN_spec hj
  have h100 := tS_le hW
  unfold f_X9_schemeOf
  have key := iter_loop (fun f x (s : Int32) => l_X9_schemeOf_4 (fun (z3 : Int32) I4 => some (z3, I4)) f x s I) (some (nI (scN τ j), I)) 0 (scN τ j) (fun k => nI (j - cum τ k)) (Nat.zero_le _) ?_ ?_ fuel (by rw [fuel_v]; omega)
  · exact key
  · intro f k _ hk
    show l_X9_schemeOf_4 _ (f + 1) (nI k) (nI (j - cum τ k)) I = l_X9_schemeOf_4 _ f (nI (k + 1)) (nI (j - cum τ (k + 1))) I
    have hc := cum_le (τ := τ) (scN τ j - (k + 1)) (k + 1)
    rw [show k + 1 + (scN τ j - (k + 1)) = scN τ j by omega] at hc
    have hc2 : cum τ (k + 1) = cum τ k + pK τ k := rfl
    rw [u_X9_schemeOf_4]
    unfold b_X9_schemeOf_4
    rw [ck_t (inb_n (show k < 4 by omega) (by decide)), nI_tn (by omega), h.2.1 k (by omega), if_neg (nI_nlt (by omega) (by omega)), ck_t (inb_n (show k < 4 by omega) (by decide)), nI_1, nI_sub (by omega) (by omega), show j - cum τ k - pK τ k = j - cum τ (k + 1) by omega]
  · intro f
    show l_X9_schemeOf_4 _ (f + 1) (nI (scN τ j)) (nI (j - cum τ (scN τ j))) I = _
    rw [u_X9_schemeOf_4]
    unfold b_X9_schemeOf_4
    rw [ck_t (inb_n (show scN τ j < 4 by omega) (by decide)), nI_tn (by omega), h.2.1 _ (by omega), if_pos (nI_lt (by omega) (by
      have := hA_ge τ (tS τ)
      have h5 : pK τ (scN τ j) ≤ tS τ := by
        have hc := cum_le (τ := τ) (4 - (scN τ j + 1)) (scN τ j + 1)
        rw [show scN τ j + 1 + (4 - (scN τ j + 1)) = 4 by omega, (cum4 τ).2.2.2] at hc
        have hc2 : cum τ (scN τ j + 1) = cum τ (scN τ j) + pK τ (scN τ j) := rfl
        omega
      omega))]
theorem s_pg9 {I : Mem} {τ : Td} (hW : WF τ) (hT : TM (I 91) τ) {j : Nat} (hj : j < tS τ) : f_X9_pagesOf (nI (scN τ j)) I = some (nI (pgN τ j), I) := by
  rw [s_pagesOf9 hW hT (scN_S hj), pg_4 hW (scN_S hj)]
  rfl
theorem s_halfAhead {I : Mem} {τ : Td} (hW : WF τ) (h : PN I τ) {j : Nat} (hj : j ≤ tS τ) : f_X9_halfAhead (nI j) I = some (nI (hA τ j), I) := by
  have h100 := tS_le hW
  unfold f_X9_halfAhead
  have key := iter_loop (fun f x (s : Int32) => l_X9_halfAhead_4 (fun (z5 : Int32) I6 => some (z5, I6)) f (nI j) s x I) (some (nI (hA τ j), I)) 0 j (fun i => nI (hA τ i)) (Nat.zero_le _) ?_ ?_ fuel (by rw [fuel_v]; omega)
  · exact key
  · intro f i _ hi
    have hpg := pgN_le hW (show i < tS τ by omega)
    show l_X9_halfAhead_4 _ (f + 1) (nI j) (nI (hA τ i)) (nI i) I = l_X9_halfAhead_4 _ f (nI j) (nI (hA τ (i + 1))) (nI (i + 1)) I
    rw [u_X9_halfAhead_4]
    unfold b_X9_halfAhead_4
    rw [if_neg (nI_ge hi (by omega)), s_schemeOf9 hW h (by omega), bI_some, s_pg9 hW h.2.2 (by omega), bI_some, nI_half (by omega), nI_add, nI_1]
    have : hA τ i + pgN τ i / 2 = hA τ (i + 1) := by
      show _ = hA τ i + 2 * zt τ (scN τ i)
      unfold pgN
      omega
    rw [this]
  · intro f
    show l_X9_halfAhead_4 _ (f + 1) (nI j) (nI (hA τ j)) (nI j) I = _
    rw [u_X9_halfAhead_4]
    unfold b_X9_halfAhead_4
    rw [if_pos (nI_le (Nat.le_refl _) (by omega))]
theorem mode_0 {τ : Td} (hW : WF τ) : (nI (τ 2) = 0) ↔ ¬ τ 2 = 1 := by
  have hm2 := hW.2.2.1
  constructor
  · intro h e
    rw [e] at h
    exact absurd h (by decide)
  · intro h
    rw [show τ 2 = 0 by omega]
    rfl
theorem s_numberOf9 {I : Mem} {τ : Td} (hW : WF τ) (h : PN I τ) {j q : Nat} (hj : j < tS τ) (h1 : 1 ≤ q) (h2 : q ≤ pgN τ j) : f_X9_numberOf (nI j) (nI q) I = some (nI (num τ j q), I) := by
  have h100 := tS_le hW
  have hA1 := hA_lt (τ := τ) hj
  have hA2 := hA_T hW
  have hP := pP_le hW
  have hpg := pgN_le hW hj
  have hpp : pP τ = 2 * hA τ (tS τ) := by unfold pP; omega
  have hpz : pgN τ j = 4 * zt τ (scN τ j) := rfl
  unfold f_X9_numberOf num
  rw [s_schemeOf9 hW h hj, bI_some, s_pg9 hW h.2.2 hj, bI_some, s_halfAhead hW h (Nat.le_of_lt hj), bI_some, h.2.2.1 2 (by decide), h.1, nI_half (by omega), show pgN τ j / 2 = 2 * zt τ (scN τ j) by omega]
  by_cases hmm : τ 2 = 1
  · rw [if_neg (fun q => (mode_0 hW).mp q hmm), if_pos hmm]
    by_cases hq : 2 * zt τ (scN τ j) < q
    · rw [if_pos (nI_lt hq (by omega)), if_pos hq, nI_sub (by omega) (by omega), show (2 : Int32) * nI (2 * zt τ (scN τ j)) = nI (2 * (2 * zt τ (scN τ j))) from nI_mul 2 _, nI_sub (by omega) (by omega), nI_add]
      congr 3
      omega
    · rw [if_neg (nI_nlt (by omega) (by omega)), if_neg hq, nI_add]
  · rw [if_pos ((mode_0 hW).mpr hmm), if_neg hmm, show (2 : Int32) * nI (hA τ j) = nI (2 * hA τ j) from nI_mul 2 _, nI_add]
/-- the reference stands at page q of sheet j -/
def skM (I : Mem) (j q : Nat) : Mem := stm (stm I 89 21 (nI j)) 89 22 (nI q)
theorem skM_22 (I : Mem) (j q : Nat) (x : Nat) : stm (skM I j q) 89 22 (nI x) = skM I j x := stm_stm _ _ _ _ _
theorem skM_21 (I : Mem) (j q : Nat) (x y : Nat) : stm (stm (skM I j q) 89 21 (nI x)) 89 22 (nI y) = skM I x y := by
  funext r i
  unfold skM
  by_cases a : r = 89 ∧ i = 22
  · simp only [stm_get, if_pos a]
  · by_cases b : r = 89 ∧ i = 21
    · simp only [stm_get, if_neg a, if_pos b]
    · simp only [stm_get, if_neg a, if_neg b]
theorem skM_row {I : Mem} {j q r : Nat} (h : r ≠ 89) : skM I j q r = I r := by
  unfold skM
  rw [stm_row h, stm_row h]
theorem skM_at1 (I : Mem) (j q : Nat) : skM I j q 89 21 = nI j := by
  unfold skM
  rw [stm_ne (by decide), stm_at]
theorem skM_at2 (I : Mem) (j q : Nat) : skM I j q 89 22 = nI q := by
  unfold skM
  rw [stm_at]
theorem skM_ne {I : Mem} {j q i : Nat} (h1 : i ≠ 21) (h2 : i ≠ 22) : skM I j q 89 i = I 89 i := by
  unfold skM
  rw [stm_ne h2, stm_ne h1]
theorem PN.sk {I : Mem} {τ : Td} (h : PN I τ) (j q : Nat) : PN (skM I j q) τ := h.rows (skM_ne (by decide) (by decide)) (skM_row (by decide)) (skM_row (by decide))
theorem s_seek {I : Mem} {τ : Td} (hW : WF τ) (h : PN I τ) {j0 q0 : Nat} (hj0 : j0 < tS τ) (h01 : 1 ≤ q0) (h02 : q0 ≤ pgN τ j0) : f_X9_seek (nI (num τ j0 q0)) I = some (skM I j0 q0) := by
  have h100 := tS_le hW
  have hA0 := hA_lt (τ := τ) hj0
  have hA2 := hA_T hW
  have hP := pP_le hW
  have hpp : pP τ = 2 * hA τ (tS τ) := by unfold pP; omega
  have hpz0 : pgN τ j0 = 4 * zt τ (scN τ j0) := rfl
  have hb0 := num_bd hW hj0 h01 h02
  unfold f_X9_seek
  have key : ∀ (d j q f : Nat), j < tS τ → 1 ≤ q → q ≤ pgN τ j → 2 * hA τ j + q + d = 2 * hA τ j0 + q0 → d < f → l_X9_seek_10 (fun I7 => some I7) f (nI (num τ j0 q0)) (skM I j q) = some (skM I j0 q0) := by
    intro d
    induction d with
    | zero =>
      intro j q f hj h1 h2 hd hf
      obtain ⟨g, rfl⟩ : ∃ g, f = g + 1 := ⟨f - 1, by omega⟩
      have hpz : pgN τ j = 4 * zt τ (scN τ j) := rfl
      have hjj : j = j0 := by
        rcases Nat.lt_trichotomy j j0 with hh | hh | hh
        · have := hA_lt (τ := τ) hh; omega
        · exact hh
        · have := hA_lt (τ := τ) hh; omega
      subst hjj
      have hqq : q = q0 := by omega
      subst hqq
      rw [u_X9_seek_10]
      unfold b_X9_seek_10
      rw [skM_at1, skM_at2, s_numberOf9 hW (h.sk j q) hj h1 h2, bI_some, if_pos rfl]
    | succ d ih =>
      intro j q f hj h1 h2 hd hf
      obtain ⟨g, rfl⟩ : ∃ g, f = g + 1 := ⟨f - 1, by omega⟩
      have hpz : pgN τ j = 4 * zt τ (scN τ j) := rfl
      have hpg := pgN_le hW hj
      have hb := num_bd hW hj h1 h2
      have hne : num τ j q ≠ num τ j0 q0 := fun e => by
        obtain ⟨e1, e2⟩ := num_inj hW hj h1 h2 hj0 h01 h02 e
        subst e1 e2
        omega
      rw [u_X9_seek_10]
      unfold b_X9_seek_10
      rw [skM_at1, skM_at2, s_numberOf9 hW (h.sk j q) hj h1 h2, bI_some, if_neg (fun e => hne ((nI_eq (by omega) (by omega)).mp e)), skM_at2, nI_1, skM_22, skM_at1, s_schemeOf9 hW (h.sk j (q + 1)) hj, bI_some, s_pg9 hW (h.sk j (q + 1)).2.2 hj, bI_some, skM_at2]
      by_cases hq : q + 1 ≤ pgN τ j
      · rw [if_pos (nI_le hq (by omega))]
        exact ih j (q + 1) g hj (by omega) hq (by omega) (by omega)
      · rw [if_neg (nI_ge (by omega) (by omega)), skM_at1, nI_1]
        have e1 : (1 : Int32) = nI 1 := rfl
        rw [e1, skM_21]
        have hn : hA τ (j + 1) = hA τ j + 2 * zt τ (scN τ j) := rfl
        have hj1 : j + 1 ≤ j0 := by
          apply Nat.le_of_not_lt
          intro hlt
          have h7 := hA_le (τ := τ) (show j0 + 1 ≤ j + 1 by omega)
          have h8 : hA τ (j0 + 1) = hA τ j0 + 2 * zt τ (scN τ j0) := rfl
          omega
        have := pgN_pos τ (j + 1)
        exact ih (j + 1) 1 g (by omega) (by omega) (by omega) (by omega) (by omega)
  have hp0 := pgN_pos τ 0
  have hh0 : hA τ 0 = 0 := rfl
  exact key (2 * hA τ j0 + q0 - 1) 0 1 fuel (by omega) (by omega) (by omega) (by omega) (by rw [fuel_v]; omega)
theorem s_outOf9 {I : Mem} {τ : Td} (hW : WF τ) (h : PN I τ) {j q : Nat} (hj : j < tS τ) (h1 : 1 ≤ q) (h2 : q ≤ pgN τ j) : f_X9_outOf (nI j) (nI q) I = some (nI (ouN τ j q), I) := by
  have h100 := tS_le hW
  have hpg := pgN_le hW hj
  have hpg4 := pgN_pos τ j
  have hpz : pgN τ j = 4 * zt τ (scN τ j) := rfl
  have hA1 := hA_lt (τ := τ) hj
  have hA2 := hA_T hW
  have hP := pP_le hW
  have hpp : pP τ = 2 * hA τ (tS τ) := by unfold pP; omega
  have e1 : nI q - 1 = nI (q - 1) := nI_sub (b := 1) h1 (by omega)
  have e2 : nI (2 * zt τ (scN τ j)) - 1 = nI (2 * zt τ (scN τ j) - 1) := nI_sub (b := 1) (by omega) (by omega)
  have hjn : ∀ y, j_X9_outOf_38 (nI j) (nI y) I = some (nI (y + if τ 2 = 1 then hA τ j / 2 else 0), I) := by
    intro y
    unfold j_X9_outOf_38
    rw [h.2.2.1 2 (by decide), s_halfAhead hW h (Nat.le_of_lt hj), bI_some, nI_half (by omega)]
    by_cases hmm : τ 2 = 1
    · rw [if_neg (fun q => (mode_0 hW).mp q hmm), if_pos hmm, nI_add]
    · rw [if_pos ((mode_0 hW).mpr hmm), if_neg hmm, Nat.add_zero]
  unfold f_X9_outOf ouN
  rw [s_schemeOf9 hW h hj, bI_some, s_pg9 hW h.2.2 hj, bI_some, nI_half (by omega), show pgN τ j / 2 = 2 * zt τ (scN τ j) by omega, e1, e2, nI_half (by omega), nI_sub (by omega) (by omega), show (2 : Int32) * nI ((q - 1) / 2) = nI (2 * ((q - 1) / 2)) from nI_mul 2 _, hjn, hjn]
  by_cases hh : 2 * zt τ (scN τ j) ≤ 2 * ((q - 1) / 2)
  · rw [if_pos (nI_le hh (by omega)), if_pos hh]
  · rw [if_neg (nI_ge (by omega) (by omega)), if_neg hh]
theorem s_movedOf9 {I : Mem} {τ : Td} (hW : WF τ) (h : PN I τ) {j q : Nat} (hj : j < tS τ) (h1 : 1 ≤ q) (h2 : q ≤ pgN τ j) : f_X9_movedOf (nI j) (nI q) I = some (mvI τ j q, I) := by
  have h100 := tS_le hW
  have hT1 := tS_pos hW
  have hA2 := hA_T hW
  have hjn : ∀ y, y < tS τ → ouN τ y (2 * zt τ (scN τ y)) = moN τ j → j_X9_movedOf_42 (nI j) (nI q) (nI y) I = some (mvI τ j q, I) := by
    intro y hy hm
    have hpg := pgN_le hW hy
    have hpz : pgN τ y = 4 * zt τ (scN τ y) := rfl
    have hz := zt_pos τ (scN τ y)
    unfold j_X9_movedOf_42 mvI
    rw [s_schemeOf9 hW h hy, bI_some, s_pg9 hW h.2.2 hy, bI_some, nI_half (by omega), show pgN τ y / 2 = 2 * zt τ (scN τ y) by omega, s_outOf9 hW h hy (by omega) (by omega), bI_some, s_outOf9 hW h hj h1 h2, bI_some, hm, h.2.2.1 1 (by decide)]
  unfold f_X9_movedOf
  rw [h.2.2.1 2 (by decide), h.2.1 0 (by decide), h.2.1 1 (by decide), h.2.1 2 (by decide), h.2.1 3 (by decide), nI_add, nI_add, nI_add, show nI (pK τ 0 + pK τ 1 + pK τ 2 + pK τ 3) - 1 = nI (tS τ - 1) from nI_sub (a := tS τ) (b := 1) hT1 (by omega)]
  by_cases hmm : τ 2 = 1
  · rw [if_neg (fun q => (mode_0 hW).mp q hmm)]
    refine hjn _ (by omega) ?_
    have hz := zt_pos τ (scN τ (tS τ - 1))
    have hl : hA τ (tS τ - 1 + 1) = hA τ (tS τ - 1) + 2 * zt τ (scN τ (tS τ - 1)) := rfl
    rw [show tS τ - 1 + 1 = tS τ by omega] at hl
    unfold ouN moN
    rw [if_pos hmm, if_pos hmm, if_neg (by omega)]
    omega
  · rw [if_pos ((mode_0 hW).mpr hmm)]
    refine hjn _ hj ?_
    have hz := zt_pos τ (scN τ j)
    unfold ouN moN
    rw [if_neg hmm, if_neg hmm, if_neg (by omega)]
    omega
