/-! CALLS THAT ONLY ASK: missing -/
/-- number r is missing, of the pages ahead of page q of sheet j -/
def mP (τ : Td) (j q r : Nat) : Prop := ∃ j' q', j' < tS τ ∧ 1 ≤ q' ∧ q' ≤ pgN τ j' ∧ (j' < j ∨ (j' = j ∧ q' < q)) ∧ num τ j' q' = r ∧ τ (16 + j') = 1 ∧ r ≤ τ 0
def MB (J : Mem) (τ : Td) (j q : Nat) : Prop := ∀ r, r < 440 → (mP τ j q r → J 103 r = 1) ∧ (¬ mP τ j q r → J 103 r = 0)
theorem mP_next {τ : Td} {j r : Nat} : mP τ (j + 1) 1 r ↔ mP τ j (pgN τ j + 1) r := by
  constructor
  · intro ⟨j', q', a, b, c, e, f⟩
    refine ⟨j', q', a, b, c, ?_, f⟩
    rcases Nat.lt_or_ge j' j with h | h
    · exact Or.inl h
    · have : j' = j := by omega
      subst this
      exact Or.inr ⟨rfl, by omega⟩
  · intro ⟨j', q', a, b, c, e, f⟩
    exact ⟨j', q', a, b, c, by omega, f⟩
theorem s_miss15 (K35 : Int32 → Int32 → Mem → Option (Int32 × Mem)) (a b : Int32) (J : Mem) : l_X9_missing_15 K35 fuel a b 0 J = K35 a b (fil J 103 (fun _ => 0) 440) := by
  refine fill_loop (fun f x M => l_X9_missing_15 K35 f a b x M) (fun M => K35 a b M) 103 440 (fun _ => 0) J ?_ ?_ fuel (by rw [fuel_v]; decide)
  · intro f i hi
    show l_X9_missing_15 K35 (f + 1) a b (nI i) _ = l_X9_missing_15 K35 f a b (nI (i + 1)) _
    rw [u_X9_missing_15]
    unfold b_X9_missing_15
    rw [if_neg (show ¬ (440 : Int32) ≤ nI i from nI_ge hi (by decide)), ck_t (inb_n hi (by decide)), nI_tn (by omega), nI_1]
    rfl
  · intro f
    show l_X9_missing_15 K35 (f + 1) a b (nI 440) _ = _
    rw [u_X9_missing_15]
    unfold b_X9_missing_15
    rw [if_pos (by decide)]
theorem s_miss56 {τ : Td} (hW : WF τ) {J : Mem} (hP : PN J τ) {j : Nat} (hj : j < tS τ) (h : MB J τ j 1) (K : Int32 → Int32 → Int32 → Mem → Option (Int32 × Mem)) (a b : Int32) : ∃ J', l_X9_missing_56 K fuel a b (nI j) (nI (pgN τ j)) 1 J = K a b (nI j) J' ∧ MB J' τ (j + 1) 1 ∧ ∀ r, r ≠ 103 → J' r = J r := by
  have h100 := tS_le hW
  have hpg := pgN_le hW hj
  have hpg4 := pgN_pos τ j
  have hP8 := pP_le hW
  have hN := hW.1.2
  by_cases hs : τ (16 + j) = 1
  · have key := inv_loop (fun f x M => l_X9_missing_56 K f a b (nI j) (nI (pgN τ j)) x M) (fun M => K a b (nI j) M) (fun q M => MB M τ j q ∧ ∀ r, r ≠ 103 → M r = J r) 1 (pgN τ j + 1) (by omega) ?_ ?_ fuel J (by rw [fuel_v]; omega) ⟨h, fun _ _ => rfl⟩
    · obtain ⟨J', ⟨a1, a2⟩, a3⟩ := key
      refine ⟨J', a3, ?_, a2⟩
      intro r hr
      rw [mP_next]
      exact a1 r hr
    · intro f q M hq1 hq2 ⟨b1, b2⟩
      have hPM : PN M τ := hP.rows (by rw [b2 89 (by decide)]) (b2 102 (by decide)) (b2 91 (by decide))
      obtain ⟨n1, n2⟩ := num_bd hW hj hq1 (show q ≤ pgN τ j by omega)
      have hstep : ∀ v : Int32, (num τ j q ≤ τ 0 → v = 1) → (¬ num τ j q ≤ τ 0 → v = 0) → MB (stm M 103 (num τ j q) v) τ j (q + 1) := by
        intro v hv1 hv0 r hr
        have hmp : mP τ j (q + 1) r ↔ mP τ j q r ∨ (num τ j q = r ∧ r ≤ τ 0) := by
          constructor
          · intro ⟨j', q', c1, c2, c3, c4, c5, c6, c7⟩
            by_cases e : j' = j ∧ q' = q
            · obtain ⟨rfl, rfl⟩ := e
              exact Or.inr ⟨c5, c7⟩
            · exact Or.inl ⟨j', q', c1, c2, c3, by omega, c5, c6, c7⟩
          · rintro (⟨j', q', c1, c2, c3, c4, c5⟩ | ⟨c1, c2⟩)
            · exact ⟨j', q', c1, c2, c3, by omega, c5⟩
            · exact ⟨j, q, hj, hq1, by omega, Or.inr ⟨rfl, by omega⟩, c1, hs, c2⟩
        by_cases e : r = num τ j q
        · subst e
          rw [stm_at]
          constructor
          · intro hm
            obtain ⟨j', q', c1, c2, c3, c4, c5, c6, c7⟩ := hm
            exact hv1 c7
          · intro hm
            refine hv0 (fun hle => hm (hmp.mpr (Or.inr ⟨rfl, hle⟩)))
        · rw [stm_ne e]
          have := b1 r hr
          constructor
          · intro hm
            rcases hmp.mp hm with hm | hm
            · exact this.1 hm
            · exact absurd hm.1.symm e
          · intro hm
            exact this.2 (fun hm' => hm (hmp.mpr (Or.inl hm')))
      refine ⟨stm M 103 (num τ j q) (if num τ j q ≤ τ 0 then 1 else 0), ⟨hstep _ (fun h => if_pos h) (fun h => if_neg h), fun r hr => by rw [stm_row hr, b2 r hr]⟩, ?_⟩
      show l_X9_missing_56 K (f + 1) a b (nI j) (nI (pgN τ j)) (nI q) M = l_X9_missing_56 K f a b (nI j) (nI (pgN τ j)) (nI (q + 1)) _
      rw [u_X9_missing_56]
      unfold b_X9_missing_56
      rw [if_neg (nI_nlt (by omega) (by omega)), show (28 : Int32) + nI j = nI (28 + j) from nI_add 28 j, ck_t (inb_n (show 28 + j < 132 by omega) (by decide)), nI_tn (by omega), hPM.2.2.2.2.1 j (by omega), if_pos (show nI (τ (16 + j)) = 1 by rw [hs]; rfl), s_numberOf9 hW hPM hj hq1 (by omega), bI_some, s_numberOf9 hW hPM hj hq1 (by omega), bI_some, hPM.2.2.1 0 (by decide), ck_t (inb_n (show num τ j q < 440 by omega) (by decide)), ck_t (inb_n (show num τ j q < 440 by omega) (by decide)), nI_tn (by omega), nI_1]
      by_cases hle : num τ j q ≤ τ 0
      · rw [if_neg (nI_nlt hle (by omega)), if_pos hle]
        rfl
      · rw [if_pos (nI_lt (by omega) (by omega)), if_neg hle]
        rfl
    · intro f M ⟨b1, b2⟩
      show l_X9_missing_56 K (f + 1) a b (nI j) (nI (pgN τ j)) (nI (pgN τ j + 1)) M = _
      rw [u_X9_missing_56]
      unfold b_X9_missing_56
      rw [if_pos (nI_lt (Nat.lt_succ_self _) (by omega))]
  · refine ⟨J, ?_, ?_, fun _ _ => rfl⟩
    · have hs1 := hW.2.2.2.2.2 j (by omega)
      obtain ⟨g, hg⟩ : ∃ g, fuel = g + 1 := ⟨4999, rfl⟩
      rw [hg, u_X9_missing_56]
      unfold b_X9_missing_56
      rw [if_neg (show ¬ nI (pgN τ j) < 1 from nI_nlt (b := 1) (by omega) (by omega)), show (28 : Int32) + nI j = nI (28 + j) from nI_add 28 j, ck_t (inb_n (show 28 + j < 132 by omega) (by decide)), nI_tn (by omega), hP.2.2.2.2.1 j (by omega), if_neg (show ¬ nI (τ (16 + j)) = 1 by rw [show τ (16 + j) = 0 by omega]; decide)]
    · intro r hr
      have hmp : mP τ (j + 1) 1 r ↔ mP τ j 1 r := by
        constructor
        · intro ⟨j', q', c1, c2, c3, c4, c5, c6, c7⟩
          refine ⟨j', q', c1, c2, c3, ?_, c5, c6, c7⟩
          have : j' ≠ j := fun e => hs (by rw [← e]; exact c6)
          omega
        · intro ⟨j', q', c1, c2, c3, c4, c5⟩
          exact ⟨j', q', c1, c2, c3, by omega, c5⟩
      rw [hmp]
      exact h r hr
theorem s_miss37 {τ : Td} (hW : WF τ) {J : Mem} (hP : PN J τ) (h : MB J τ 0 1) (K : Int32 → Mem → Option (Int32 × Mem)) (a : Int32) : ∃ J', l_X9_missing_37 K fuel a (nI (tS τ)) 0 J = K a J' ∧ MB J' τ (tS τ) 1 ∧ ∀ r, r ≠ 103 → J' r = J r := by
  have h100 := tS_le hW
  have key := inv_loop (fun f x M => l_X9_missing_37 K f a (nI (tS τ)) x M) (fun M => K a M) (fun j M => MB M τ j 1 ∧ ∀ r, r ≠ 103 → M r = J r) 0 (tS τ) (Nat.zero_le _) ?_ ?_ fuel J (by rw [fuel_v]; omega) ⟨h, fun _ _ => rfl⟩
  · obtain ⟨J', ⟨a1, a2⟩, a3⟩ := key
    exact ⟨J', a3, a1, a2⟩
  · intro f j M _ hj ⟨b1, b2⟩
    have hPM : PN M τ := hP.rows (by rw [b2 89 (by decide)]) (b2 102 (by decide)) (b2 91 (by decide))
    obtain ⟨M', c1, c2, c3⟩ := s_miss56 hW hPM hj b1 (fun (z18 : Int32) (z19 : Int32) (z20 : Int32) I21 => l_X9_missing_37 K f z18 z19 (z20 + (1 : Int32)) I21) a (nI (tS τ))
    refine ⟨M', ⟨c2, fun r hr => by rw [c3 r hr, b2 r hr]⟩, ?_⟩
    show l_X9_missing_37 K (f + 1) a (nI (tS τ)) (nI j) M = l_X9_missing_37 K f a (nI (tS τ)) (nI (j + 1)) M'
    rw [u_X9_missing_37]
    unfold b_X9_missing_37
    rw [if_neg (nI_ge hj (by omega)), s_schemeOf9 hW hPM hj, bI_some, s_pg9 hW hPM.2.2 hj, bI_some, c1, nI_1]
  · intro f M ⟨b1, b2⟩
    show l_X9_missing_37 K (f + 1) a (nI (tS τ)) (nI (tS τ)) M = _
    rw [u_X9_missing_37]
    unfold b_X9_missing_37
    rw [if_pos (nI_le (Nat.le_refl _) (by omega))]
/-- missing(i) -/
theorem q_missing {I : Mem} {L : Nat} {x : Nat → Nat} {τ : Td} {d : Nat} {us : Nat → Td} (hC : IC I L x τ d us) (hM : IM I L x τ d us) (w : Int32) : Sm (f_X8_missing w) (f_X9_missing w) I := by
  have hW := hC.wf
  have hN := hW.1.2
  have hPl := pP_le hW
  have hNP := pP_ge hW
  obtain ⟨J, j1, j2, j3, j4⟩ := s_sheetMany hW hM.told
  by_cases h2 : (-2 : Int32) ≤ w
  rotate_left 1
  · refine Sm_q hC hM (v := -1) ?_ ⟨I, ?_, MF.refl I⟩
    · unfold f_X8_missing
      rw [if_neg h2]
    · unfold f_X9_missing
      rw [if_neg h2]
  obtain ⟨N, n1, n2, n3⟩ := s_miss37 hW (J := fil J 103 (fun _ => 0) 440) (j2.rows (by rw [fil_row (by decide)]) (fil_row (by decide)) (fil_row (by decide))) (fun r hr => ⟨fun ⟨j', q', c1, c2, c3, c4, c5⟩ => by omega, fun _ => fil_lt hr⟩) (fun (z22 : Int32) I23 => l_X9_missing_129 (fun (z26 : Int32) I27 => some (z26, I27)) (fun (z28 : Int32) (z29 : Int32) (z30 : Int32) I31 => (if z28 = (-1 : Int32) then some (z29, I31) else (if z28 = (-2 : Int32) then some (z30, I31) else some ((-4 : Int32), I31)))) fuel z22 (0 : Int32) (0 : Int32) (1 : Int32) I23) w
  have hMN : MF I N := (MF.plan j3 j4).trans ⟨fun r hr => by rw [n3 r (by omega), fil_row (by omega)], by rw [n3 89 (by decide), fil_row (by decide)], by rw [n3 89 (by decide), fil_row (by decide)], by rw [n3 90 (by decide), fil_row (by decide)], by rw [n3 91 (by decide), fil_row (by decide)], by rw [n3 92 (by decide), fil_row (by decide)]⟩
  have hN0 : N 91 0 = nI (τ 0) := by
    rw [hMN.2.2.2.2.1]
    exact hM.told.1 0 (by decide)
  have e9 : f_X9_missing w I = l_X9_missing_129 (fun (z26 : Int32) I27 => some (z26, I27)) (fun (z28 : Int32) (z29 : Int32) (z30 : Int32) I31 => (if z28 = (-1 : Int32) then some (z29, I31) else (if z28 = (-2 : Int32) then some (z30, I31) else some ((-4 : Int32), I31)))) fuel w (0 : Int32) (0 : Int32) (1 : Int32) N := by
    unfold f_X9_missing
    rw [if_pos h2, j1, bI_some, s_miss15]
    exact n1
  have hB8 : ∀ r, r ≤ τ 0 → (mP τ (tS τ) 1 r → f_X8_isMissing (nI r) I = some (1, I) ∧ N 103 r = 1) ∧ (¬ mP τ (tS τ) 1 r → f_X8_isMissing (nI r) I = some (0, I) ∧ N 103 r = 0) := by
    intro r hr
    have hn := n2 r (by omega)
    constructor
    · intro hm
      refine ⟨?_, hn.1 hm⟩
      obtain ⟨j, q, c1, c2, c3, c4, rfl, c6, c7⟩ := hm
      rw [s_missing8 hW hC.told hC.book c1 c2 c3, if_pos ⟨c7, c6⟩]
    · intro hm
      refine ⟨?_, hn.2 hm⟩
      by_cases hr0 : r = 0
      · subst hr0
        unfold f_X8_isMissing
        rw [if_pos (by decide)]
      · obtain ⟨j, q, c1, c2, c3, rfl⟩ := num_sur hW (show 1 ≤ r by omega) (show r ≤ pP τ by omega)
        rw [s_missing8 hW hC.told hC.book c1 c2 c3, if_neg (fun c => hm ⟨j, q, c1, c2, c3, Or.inl c1, rfl, c.2, c.1⟩)]
  by_cases hw2 : w = -2
  · subst hw2
    have key : ∀ (dd r f g c u : Nat), r + dd = τ 0 + 1 → 1 ≤ r → c ≤ r → dd < f → dd < g → ∃ v, l_X8_missingRuns_4 (fun (z5 : Int32) I6 => some (z5, I6)) f (nI u) (nI r) I = some (v, I) ∧ l_X9_missing_129 (fun (z26 : Int32) I27 => some (z26, I27)) (fun (z28 : Int32) (z29 : Int32) (z30 : Int32) I31 => (if z28 = (-1 : Int32) then some (z29, I31) else (if z28 = (-2 : Int32) then some (z30, I31) else some ((-4 : Int32), I31)))) g (-2) (nI c) (nI u) (nI r) N = some (v, N) := by
      intro dd
      induction dd with
      | zero =>
        intro r f g c u hr hr1 hc hf hg
        obtain ⟨f', rfl⟩ : ∃ f', f = f' + 1 := ⟨f - 1, by omega⟩
        obtain ⟨g', rfl⟩ : ∃ g', g = g' + 1 := ⟨g - 1, by omega⟩
        rw [u_X8_missingRuns_4, u_X9_missing_129]
        unfold b_X8_missingRuns_4 b_X9_missing_129
        rw [show I 4 0 = nI (τ 0) from hC.told.2.1 0 (by decide), hN0, if_pos (nI_lt (by omega) (by omega)), if_pos (nI_lt (by omega) (by omega))]
        exact ⟨_, rfl, rfl⟩
      | succ dd ih =>
        intro r f g c u hr hr1 hc hf hg
        obtain ⟨f', rfl⟩ : ∃ f', f = f' + 1 := ⟨f - 1, by omega⟩
        obtain ⟨g', rfl⟩ : ∃ g', g = g' + 1 := ⟨g - 1, by omega⟩
        rw [u_X8_missingRuns_4, u_X9_missing_129]
        unfold b_X8_missingRuns_4 b_X9_missing_129
        rw [show I 4 0 = nI (τ 0) from hC.told.2.1 0 (by decide), hN0, if_neg (nI_nlt (by omega) (by omega)), if_neg (nI_nlt (by omega) (by omega)), ck_t (inb_n (show r < 440 by omega) (by decide)), nI_tn (by omega), nI_1, nI_1, nI_1, show nI r - 1 = nI (r - 1) from nI_sub (b := 1) hr1 (by omega), ck_t (inb_n (show r - 1 < 440 by omega) (by decide)), nI_tn (by omega)]
        have hb := hB8 r (by omega)
        have hb' := hB8 (r - 1) (by omega)
        by_cases hm : mP τ (tS τ) 1 r
        · rw [(hb.1 hm).1, (hb.1 hm).2, bI_some, if10, if10, if_neg (show ¬ nI c = -2 from fun q => by
            have := congrArg Int32.toInt q
            rw [nI_toInt (by omega), show (-2 : Int32).toInt = -2 by decide] at this
            omega)]
          by_cases hm' : mP τ (tS τ) 1 (r - 1)
          · rw [(hb'.1 hm').1, (hb'.1 hm').2, bI_some, if10, if10, Int32.add_zero]
            exact ih (r + 1) f' g' (c + 1) u (by omega) (by omega) (by omega) (by omega) (by omega)
          · rw [(hb'.2 hm').1, (hb'.2 hm').2, bI_some, if00, if00]
            exact ih (r + 1) f' g' (c + 1) (u + 1) (by omega) (by omega) (by omega) (by omega) (by omega)
        · rw [(hb.2 hm).1, (hb.2 hm).2, bI_some, if00, if00]
          exact ih (r + 1) f' g' c u (by omega) (by omega) (by omega) (by omega) (by omega)
    obtain ⟨v, v1, v2⟩ := key (τ 0) 1 fuel fuel 0 0 (by omega) (by omega) (by omega) (by rw [fuel_v]; omega) (by rw [fuel_v]; omega)
    refine Sm_q hC hM (v := v) ?_ ⟨N, by rw [e9]; exact v2, hMN⟩
    unfold f_X8_missing f_X8_missingRuns
    rw [if_pos h2, if_pos rfl, show (0 : Int32) = nI 0 from rfl, show (1 : Int32) = nI 1 from rfl, v1, bI_some]
  · have key : ∀ (dd r f g c u : Nat), r + dd = τ 0 + 1 → 1 ≤ r → dd < f → dd < g → ∃ v, l_X8_missing_23 (fun (z5 : Int32) I6 => some (z5, I6)) (fun (z7 : Int32) (z8 : Int32) I9 => (if z7 = (-1 : Int32) then some (z8, I9) else some ((-4 : Int32), I9))) f w (nI c) (nI r) I = some (v, I) ∧ l_X9_missing_129 (fun (z26 : Int32) I27 => some (z26, I27)) (fun (z28 : Int32) (z29 : Int32) (z30 : Int32) I31 => (if z28 = (-1 : Int32) then some (z29, I31) else (if z28 = (-2 : Int32) then some (z30, I31) else some ((-4 : Int32), I31)))) g w (nI c) (nI u) (nI r) N = some (v, N) := by
      intro dd
      induction dd with
      | zero =>
        intro r f g c u hr hr1 hf hg
        obtain ⟨f', rfl⟩ : ∃ f', f = f' + 1 := ⟨f - 1, by omega⟩
        obtain ⟨g', rfl⟩ : ∃ g', g = g' + 1 := ⟨g - 1, by omega⟩
        rw [u_X8_missing_23, u_X9_missing_129]
        unfold b_X8_missing_23 b_X9_missing_129
        rw [show I 4 0 = nI (τ 0) from hC.told.2.1 0 (by decide), hN0, if_pos (nI_lt (by omega) (by omega)), if_pos (nI_lt (by omega) (by omega))]
        dsimp only
        rw [if_neg hw2]
        by_cases h1 : w = -1
        · rw [if_pos h1, if_pos h1]
          exact ⟨_, rfl, rfl⟩
        · rw [if_neg h1, if_neg h1]
          exact ⟨_, rfl, rfl⟩
      | succ dd ih =>
        intro r f g c u hr hr1 hf hg
        obtain ⟨f', rfl⟩ : ∃ f', f = f' + 1 := ⟨f - 1, by omega⟩
        obtain ⟨g', rfl⟩ : ∃ g', g = g' + 1 := ⟨g - 1, by omega⟩
        rw [u_X8_missing_23, u_X9_missing_129]
        unfold b_X8_missing_23 b_X9_missing_129
        rw [show I 4 0 = nI (τ 0) from hC.told.2.1 0 (by decide), hN0, if_neg (nI_nlt (by omega) (by omega)), if_neg (nI_nlt (by omega) (by omega)), ck_t (inb_n (show r < 440 by omega) (by decide)), nI_tn (by omega), nI_1, nI_1, nI_1, show nI r - 1 = nI (r - 1) from nI_sub (b := 1) hr1 (by omega), ck_t (inb_n (show r - 1 < 440 by omega) (by decide)), nI_tn (by omega)]
        have hb := hB8 r (by omega)
        have hb' := hB8 (r - 1) (by omega)
        by_cases hm : mP τ (tS τ) 1 r
        · rw [(hb.1 hm).1, (hb.1 hm).2, bI_some, if10, if10]
          by_cases hcw : nI c = w
          · rw [if_pos hcw, if_pos hcw]
            exact ⟨_, rfl, rfl⟩
          · rw [if_neg hcw, if_neg hcw]
            by_cases hm' : mP τ (tS τ) 1 (r - 1)
            · rw [(hb'.1 hm').2, if10, Int32.add_zero]
              exact ih (r + 1) f' g' (c + 1) u (by omega) (by omega) (by omega) (by omega)
            · rw [(hb'.2 hm').2, if00]
              exact ih (r + 1) f' g' (c + 1) (u + 1) (by omega) (by omega) (by omega) (by omega)
        · rw [(hb.2 hm).1, (hb.2 hm).2, bI_some, if00, if00]
          exact ih (r + 1) f' g' c u (by omega) (by omega) (by omega) (by omega)
    obtain ⟨v, v1, v2⟩ := key (τ 0) 1 fuel fuel 0 0 (by omega) (by omega) (by rw [fuel_v]; omega) (by rw [fuel_v]; omega)
    refine Sm_q hC hM (v := v) ?_ ⟨N, by rw [e9]; exact v2, hMN⟩
    unfold f_X8_missing
    rw [if_pos h2, if_neg hw2]
    exact v1
