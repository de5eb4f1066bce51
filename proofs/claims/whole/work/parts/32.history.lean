/-! HISTORY: what was told ahead of the last changes -/
def pd (d : Nat) : Nat := if d < 6 then d + 1 else 6
def pu (d : Nat) (us : Nat → Td) (τ : Td) : Nat → Td := if d < 6 then (fun i => if i = d then τ else us i) else (fun i => if i = 5 then τ else us (i + 1))
/-- the ids of the kept ones -/
def KK (I : Mem) (κ : Nat → Nat) : Prop := (∀ i, i < 6 → I 16 i = nI (κ i) ∧ 17 ≤ κ i ∧ κ i ≤ 47 ∧ (κ i - 17) % 6 = 0 ∧ stag (κ i) = 7) ∧ ∀ i j, i < 6 → j < 6 → κ i = κ j → i = j
def HX (I : Mem) (d : Nat) (us : Nat → Td) (κ : Nat → Nat) : Prop := I 15 1 = nI d ∧ d ≤ 6 ∧ KK I κ ∧ ∀ i, i < d → TX I (κ i) (us i)
theorem KK.apart {I : Mem} {κ : Nat → Nat} (h : KK I κ) {i j : Nat} (hi : i < 6) (hj : j < 6) (hij : i ≠ j) : κ i + 6 ≤ κ j ∨ κ j + 6 ≤ κ i := by
  obtain ⟨-, a1, a2, a3, -⟩ := h.1 i hi
  obtain ⟨-, b1, b2, b3, -⟩ := h.1 j hj
  have : κ i ≠ κ j := fun e => hij (h.2 i j hi hj e)
  omega
theorem s_keepj {I : Mem} {d : Nat} {us : Nat → Td} {κ : Nat → Nat} {τ : Td} (h : HX I d us κ) (hd : d < 6) (hτ : TX I 3 τ) (hS : τ 3 ≤ 4) : ∃ I', j_X1_keep_15_3_13 I = some I' ∧ HX I' (d + 1) (fun i => if i = d then τ else us i) κ ∧ ∀ i, i < 15 ∨ 53 ≤ i → I' i = I i := by
  obtain ⟨h1, h2, h3, h4⟩ := h
  obtain ⟨e1, k1, k2, k3, k4⟩ := h3.1 d hd
  refine ⟨stm (cpT I (κ d) 3) 15 1 (nI (d + 1)), ?_, ⟨stm_at _ _ _ _, by omega, ⟨fun i hi => ?_, h3.2⟩, fun i hi => ?_⟩, fun i hi => ?_⟩
  · unfold j_X1_keep_15_3_13
    rw [h1, ck_t (inb_n hd (by decide)), nI_tn (by omega), e1, nI_tn (by omega), ck_t (by rw [k4]; rfl), s_copyFrom_v7_3 k1, bV_some, cpT_row (by omega), h1, nI_1]
  · rw [stm_row (by decide), cpT_row (by omega)]
    exact h3.1 i hi
  · show TX _ (κ i) (if i = d then τ else us i)
    by_cases hid : i = d
    · rw [if_pos hid, hid]
      exact (cpT_TX hS hτ).rows (fun r _ _ => stm_row (by omega))
    · rw [if_neg hid]
      have hap := h3.apart (show i < 6 by omega) hd hid
      obtain ⟨-, q1, q2, -⟩ := h3.1 i (by omega)
      exact (h4 i (by omega)).rows (fun r _ _ => by rw [stm_row (by omega), cpT_row (by omega)])
  · rw [stm_row (by omega), cpT_row (by omega)]
def fgS (I : Mem) (κ : Nat → Nat) (i : Nat) : Mem := upR I 16 (fun j => if j + 1 < i then nI (κ (j + 1)) else I 16 j)
theorem s_forget {I : Mem} {κ : Nat → Nat} (h : KK I κ) : f_X1_forgetOldest I = some (stm (stm (fgS I κ 6) 16 5 (nI (κ 0))) 15 1 5) := by
  obtain ⟨e0, a1, a2, -, a4⟩ := h.1 0 (by decide)
  unfold f_X1_forgetOldest
  rw [e0, nI_tn (by omega), ck_t (by rw [a4]; rfl)]
  have hS1 : I = fgS I κ 1 := by
    funext i
    unfold fgS upR
    by_cases hi : i = 16
    · rw [if_pos hi, hi]
      funext j
      rw [if_neg (by omega)]
    · rw [if_neg hi]
  have key := iter_loop (fun f x M => l_X1_forgetOldest_9 (fun (w5 : Nat) I6 => some (stm (stm I6 16 5 (nI w5)) 15 1 5)) f (κ 0) x M) (some (stm (stm (fgS I κ 6) 16 5 (nI (κ 0))) 15 1 5)) 1 6 (fgS I κ) (by decide) ?_ ?_ fuel (by rw [fuel_v]; decide)
  · rw [← hS1] at key
    exact key
  · intro f i h1 h6
    obtain ⟨ei, b1, b2, -, b4⟩ := h.1 i h6
    have er : fgS I κ i 16 i = nI (κ i) := by
      unfold fgS
      rw [upR_at, if_neg (by omega)]
      exact ei
    show l_X1_forgetOldest_9 _ (f + 1) (κ 0) (nI i) _ = l_X1_forgetOldest_9 _ f (κ 0) (nI (i + 1)) _
    rw [u_X1_forgetOldest_9]
    unfold b_X1_forgetOldest_9
    rw [if_neg (show ¬ (6 : Int32) ≤ nI i from nI_ge h6 (by decide)), ck_t (inb_n h6 (by decide)), nI_tn (by omega), er, nI_tn (by omega), ck_t (by rw [b4]; rfl), show nI i - 1 = nI (i - 1) from nI_sub (a := i) (b := 1) h1 (by omega), ck_t (inb_n (by omega) (by decide)), nI_tn (by omega), nI_1]
    congr 1
    unfold fgS
    rw [stm_upR]
    congr 1
    funext j
    unfold upd
    by_cases hj : j = i - 1
    · rw [if_pos hj, if_pos (by omega), hj, show i - 1 + 1 = i by omega]
    · rw [if_neg hj]
      show (if j + 1 < i then _ else _) = _
      by_cases hj2 : j + 1 < i
      · rw [if_pos hj2, if_pos (by omega)]
      · rw [if_neg hj2, if_neg (by omega)]
  · intro f
    show l_X1_forgetOldest_9 _ (f + 1) (κ 0) (nI 6) _ = _
    rw [u_X1_forgetOldest_9]
    unfold b_X1_forgetOldest_9
    rw [if_pos (by decide)]
def kap (κ : Nat → Nat) : Nat → Nat := fun i => if i = 5 then κ 0 else κ (i + 1)
theorem s_keep {I : Mem} {d : Nat} {us : Nat → Td} {κ : Nat → Nat} {τ : Td} (h : HX I d us κ) (hτ : TX I 3 τ) (hS : τ 3 ≤ 4) : ∃ I' κ', f_X1_keep_15_3 I = some I' ∧ HX I' (pd d) (pu d us τ) κ' ∧ ∀ i, i < 15 ∨ 53 ≤ i → I' i = I i := by
  unfold f_X1_keep_15_3 pd pu
  have h1 := h.1
  have h2 := h.2.1
  by_cases hd : d < 6
  · rw [h1, if_pos (show nI d < (6 : Int32) from nI_lt hd (by decide)), if_pos hd, if_pos hd]
    obtain ⟨I', a, b, c⟩ := s_keepj h hd hτ hS
    exact ⟨I', κ, a, b, c⟩
  · have hd6 : d = 6 := by omega
    subst hd6
    rw [h1, if_neg (by decide), if_neg (by decide), if_neg (by decide), s_forget h.2.2.1, bV_some]
    have hK := h.2.2.1
    have hr16 : ∀ j, j < 6 → stm (stm (fgS I κ 6) 16 5 (nI (κ 0))) 15 1 5 16 j = nI (kap κ j) := by
      intro j hj
      rw [stm_row (by decide)]
      unfold kap
      by_cases h5 : j = 5
      · rw [h5, stm_at, if_pos rfl]
      · rw [stm_ne h5, if_neg h5]
        unfold fgS
        rw [upR_at, if_pos (by omega)]
    have hrow : ∀ i, i ≠ 15 → i ≠ 16 → stm (stm (fgS I κ 6) 16 5 (nI (κ 0))) 15 1 5 i = I i := by
      intro i a b
      rw [stm_row a, stm_row b]
      exact upR_ne b
    have hH : HX (stm (stm (fgS I κ 6) 16 5 (nI (κ 0))) 15 1 5) 5 (fun i => us (i + 1)) (kap κ) := by
      refine ⟨stm_at _ _ _ _, by decide, ⟨fun i hi => ?_, fun i j hi hj e => ?_⟩, fun i hi => ?_⟩
      · refine ⟨hr16 i hi, ?_⟩
        unfold kap
        by_cases h5 : i = 5
        · rw [if_pos h5]; exact (hK.1 0 (by decide)).2
        · rw [if_neg h5]; exact (hK.1 (i + 1) (by omega)).2
      · unfold kap at e
        by_cases h5 : i = 5 <;> by_cases h5j : j = 5
        · omega
        · rw [if_pos h5, if_neg h5j] at e
          have := hK.2 0 (j + 1) (by decide) (by omega) e
          omega
        · rw [if_neg h5, if_pos h5j] at e
          have := hK.2 (i + 1) 0 (by omega) (by decide) e
          omega
        · rw [if_neg h5, if_neg h5j] at e
          have := hK.2 (i + 1) (j + 1) (by omega) (by omega) e
          omega
      · unfold kap
        rw [if_neg (by omega)]
        obtain ⟨-, q1, q2, -⟩ := hK.1 (i + 1) (by omega)
        exact (h.2.2.2 (i + 1) (by omega)).rows (fun r _ _ => hrow r (by omega) (by omega))
    obtain ⟨I', a, b, c⟩ := s_keepj hH (by decide) (hτ.rows (fun r _ _ => hrow r (by omega) (by omega))) hS
    exact ⟨I', kap κ, a, b, fun i hi => by rw [c i hi]; exact hrow i (by omega) (by omega)⟩
theorem s_bring {I : Mem} {d : Nat} {us : Nat → Td} {κ : Nat → Nat} (h : HX I (d + 1) us κ) (hS : us d 3 ≤ 4) : ∃ I', f_X1_bringBack_15_3 I = some I' ∧ HX I' d us κ ∧ TX I' 3 (us d) ∧ ∀ i, i < 3 ∨ (9 ≤ i ∧ i ≠ 15) → I' i = I i := by
  obtain ⟨h1, h2, h3, h4⟩ := h
  obtain ⟨e1, k1, k2, k3, k4⟩ := h3.1 d (by omega)
  have hM : stm I 15 1 (nI (d + 1) - 1) = stm I 15 1 (nI d) := by rw [nI_pred]
  refine ⟨cpT (stm I 15 1 (nI d)) 3 (κ d), ?_, ⟨?_, by omega, ⟨fun i hi => ?_, h3.2⟩, fun i hi => ?_⟩, ?_, fun i hi => ?_⟩
  · unfold f_X1_bringBack_15_3
    rw [h1, if_neg (nI_nle (by omega) (by omega)), hM, stm_at, ck_t (inb_n (by omega) (by decide)), nI_tn (by omega), stm_row (by decide), e1, nI_tn (by omega), ck_t (by rw [k4]; rfl), s_copyFrom_3_v7 k1, bV_some]
  · rw [cpT_row (by omega), stm_at]
  · rw [cpT_row (by omega), stm_row (by decide)]
    exact h3.1 i hi
  · obtain ⟨-, q1, q2, -⟩ := h3.1 i (by omega)
    exact (h4 i (by omega)).rows (fun r _ _ => by rw [cpT_row (by omega), stm_row (by omega)])
  · exact cpT_TX hS ((h4 d (by omega)).rows (fun r _ _ => stm_row (by omega)))
  · rw [cpT_row (by omega), stm_row (by omega)]
/-! the reference's -/
def HM (I : Mem) (d : Nat) (us : Nat → Td) : Prop := I 89 4 = nI d ∧ d ≤ 6 ∧ ∀ k, k < d → TM (fun i => I 92 (132 * k + i)) (us k)
theorem TM.same {g g' : Nat → Int32} {τ : Td} (hτ : τ 3 ≤ 4) (hk : ∀ k, k < τ 3 → τ (8 + k) ≤ 4) (h : TM g τ) (e : ∀ i, i < 132 → g' i = g i) : TM g' τ := by
  obtain ⟨h1, h2, h3, h4⟩ := h
  refine ⟨fun i hi => by rw [e i (by omega)]; exact h1 i hi, fun k hk2 => ?_, fun j hj => by rw [e _ (by omega)]; exact h3 j hj, fun j hj => by rw [e _ (by omega)]; exact h4 j hj⟩
  obtain ⟨a1, a2, a3⟩ := h2 k hk2
  have := hk k hk2
  exact ⟨by rw [e _ (by omega)]; exact a1, by rw [e _ (by omega)]; exact a2, fun i hi => by rw [e _ (by omega)]; exact a3 i hi⟩
def ntS (I : Mem) (d i : Nat) : Mem := upR I 92 (fun j => if 132 * d ≤ j ∧ j < 132 * d + i then I 91 (j - 132 * d) else I 92 j)
theorem s_note52 {β : Type} (K86 : Mem → Option Mem) (I : Mem) (d : Nat) (hd : d < 6) (h4 : I 89 4 = nI d) : l_X9_note_52 K86 fuel 0 I = K86 (ntS I d 132) := by
  have hS0 : I = ntS I d 0 := by
    funext i
    unfold ntS upR
    by_cases hi : i = 92
    · rw [if_pos hi, hi]
      funext j
      rw [if_neg (by omega)]
    · rw [if_neg hi]
  have key := iter_loop (fun f x M => l_X9_note_52 K86 f x M) (K86 (ntS I d 132)) 0 132 (ntS I d) (by decide) ?_ ?_ fuel (by rw [fuel_v]; decide)
  · rw [← hS0] at key
    exact key
  · intro f i _ hi
    have e1 : ntS I d i 89 4 = nI d := by
      unfold ntS
      rw [upR_ne (by decide)]
      exact h4
    have e2 : ntS I d i 91 i = I 91 i := by
      unfold ntS
      rw [upR_ne (by decide)]
    show l_X9_note_52 _ (f + 1) (nI i) _ = l_X9_note_52 _ f (nI (i + 1)) _
    rw [u_X9_note_52]
    unfold b_X9_note_52
    rw [if_neg (show ¬ (132 : Int32) ≤ nI i from nI_ge hi (by decide)), ck_t (inb_n hi (by decide)), e1, show (132 : Int32) * nI d + nI i = nI (132 * d + i) by rw [show (132 : Int32) * nI d = nI (132 * d) from nI_mul 132 d, nI_add], ck_t (inb_n (by omega) (by decide)), nI_tn (by omega), nI_tn (by omega), nI_1, e2]
    congr 1
    unfold ntS
    rw [stm_upR]
    congr 1
    funext j
    unfold upd
    by_cases hj : j = 132 * d + i
    · rw [if_pos hj, if_pos (by omega), hj, show 132 * d + i - 132 * d = i by omega]
    · rw [if_neg hj]
      show (if 132 * d ≤ j ∧ j < 132 * d + i then _ else _) = _
      by_cases hj2 : 132 * d ≤ j ∧ j < 132 * d + i
      · rw [if_pos hj2, if_pos (by omega)]
      · rw [if_neg hj2, if_neg (by omega)]
  · intro f
    show l_X9_note_52 _ (f + 1) (nI 132) _ = _
    rw [u_X9_note_52]
    unfold b_X9_note_52
    rw [if_pos (by decide)]
theorem s_note11 (K40 : Mem → Option Mem) (I : Mem) : l_X9_note_11 K40 fuel 0 I = K40 (fil I 92 (fun j => I 92 (132 + j)) 660) := by
  refine fill_loop (l_X9_note_11 K40) K40 92 660 (fun j => I 92 (132 + j)) I ?_ ?_ fuel (by rw [fuel_v]; decide)
  · intro f i hi
    rw [u_X9_note_11]
    unfold b_X9_note_11
    rw [if_neg (show ¬ (660 : Int32) ≤ nI i from nI_ge hi (by decide)), show (132 : Int32) + nI i = nI (132 + i) from nI_add 132 i, ck_t (inb_n (by omega) (by decide)), ck_t (inb_n (by omega) (by decide)), nI_tn (by omega), nI_tn (by omega), nI_1, fil_ge (by omega)]
  · intro f
    rw [u_X9_note_11]
    unfold b_X9_note_11
    rw [if_pos (by decide)]
theorem s_note {I : Mem} {d : Nat} {us : Nat → Td} {τ : Td} (h : HM I d us) (hτ : TM (I 91) τ) (hS : τ 3 ≤ 4) (hk : ∀ k, k < τ 3 → τ (8 + k) ≤ 4) (hu : ∀ i, i < d → us i 3 ≤ 4 ∧ ∀ k, k < us i 3 → us i (8 + k) ≤ 4) : ∃ I', f_X9_note I = some I' ∧ HM I' (pd d) (pu d us τ) ∧ (∀ i, i ≠ 92 → i ≠ 89 → I' i = I i) ∧ ∀ k, k ≠ 4 → I' 89 k = I 89 k := by
  obtain ⟨h1, h2, h3⟩ := h
  unfold f_X9_note pd pu
  by_cases hd : d < 6
  · rw [h1, if_neg (fun q => by have := (nI_eq (a := d) (b := 6) (by omega) (by decide)).mp q; omega), s_note52 (β := Unit) _ I d hd h1, if_pos hd, if_pos hd]
    have e4 : ntS I d 132 89 4 = nI d := by unfold ntS; rw [upR_ne (by decide)]; exact h1
    refine ⟨_, rfl, ⟨?_, by omega, fun k hk2 => ?_⟩, fun i a b => ?_, fun k a => ?_⟩
    · rw [stm_at, e4, nI_1]
    · show TM _ (if k = d then τ else us k)
      by_cases hkd : k = d
      · rw [if_pos hkd, hkd]
        refine hτ.same hS hk (fun i hi => ?_)
        show stm (ntS I d 132) 89 4 _ 92 (132 * d + i) = _
        rw [stm_row (by decide)]
        unfold ntS
        rw [upR_at, if_pos (by omega), show 132 * d + i - 132 * d = i by omega]
      · rw [if_neg hkd]
        have hu2 := hu k (by omega)
        refine (h3 k (by omega)).same hu2.1 hu2.2 (fun i hi => ?_)
        show stm (ntS I d 132) 89 4 _ 92 (132 * k + i) = _
        rw [stm_row (by decide)]
        unfold ntS
        rw [upR_at, if_neg (by omega)]
    · rw [stm_row b]
      unfold ntS
      exact upR_ne a
    · rw [stm_ne a]
      unfold ntS
      rw [upR_ne (by decide)]
  · have hd6 : d = 6 := by omega
    subst hd6
    rw [h1, if_pos (show nI 6 = (6 : Int32) from rfl), s_note11, if_neg (by decide), if_neg (by decide)]
    have f4 : stm (fil I 92 (fun j => I 92 (132 + j)) 660) 89 4 ((fil I 92 (fun j => I 92 (132 + j)) 660) 89 4 - 1) = stm (fil I 92 (fun j => I 92 (132 + j)) 660) 89 4 (nI 5) := by
      rw [fil_row (by decide), h1]
      rfl
    rw [f4]
    generalize hM : stm (fil I 92 (fun j => I 92 (132 + j)) 660) 89 4 (nI 5) = M
    have g4 : M 89 4 = nI 5 := by rw [← hM]; exact stm_at _ _ _ _
    have g92 : ∀ j, j < 660 → M 92 j = I 92 (132 + j) := fun j hj => by rw [← hM, stm_row (by decide), fil_lt hj]
    have gr : ∀ i, i ≠ 92 → i ≠ 89 → M i = I i := fun i a b => by rw [← hM, stm_row b, fil_row a]
    have g89 : ∀ k, k ≠ 4 → M 89 k = I 89 k := fun k a => by rw [← hM, stm_ne a, fil_row (by decide)]
    rw [s_note52 (β := Unit) _ M 5 (by decide) g4]
    have e4 : ntS M 5 132 89 4 = nI 5 := by unfold ntS; rw [upR_ne (by decide)]; exact g4
    refine ⟨_, rfl, ⟨?_, by decide, fun k hk2 => ?_⟩, fun i a b => ?_, fun k a => ?_⟩
    · rw [stm_at, e4]; rfl
    · show TM _ (if k = 5 then τ else us (k + 1))
      by_cases hkd : k = 5
      · rw [if_pos hkd, hkd]
        refine hτ.same hS hk (fun i hi => ?_)
        show stm (ntS M 5 132) 89 4 _ 92 (132 * 5 + i) = _
        rw [stm_row (by decide)]
        unfold ntS
        rw [upR_at, if_pos (by omega), show 132 * 5 + i - 132 * 5 = i by omega, gr 91 (by decide) (by decide)]
      · rw [if_neg hkd]
        have hu2 := hu (k + 1) (by omega)
        refine (h3 (k + 1) (by omega)).same hu2.1 hu2.2 (fun i hi => ?_)
        show stm (ntS M 5 132) 89 4 _ 92 (132 * k + i) = I 92 (132 * (k + 1) + i)
        rw [stm_row (by decide)]
        unfold ntS
        rw [upR_at, if_neg (by omega), g92 _ (by omega)]
        congr 1
        omega
    · rw [stm_row b]
      unfold ntS
      rw [upR_ne a]
      exact gr i a b
    · rw [stm_ne a]
      unfold ntS
      rw [upR_ne (by decide)]
      exact g89 k a
theorem s_undo9 {I : Mem} {d : Nat} (h4 : I 89 4 = nI (d + 1)) (hd : d < 6) : f_X9_undo I = some (nI d, fil (stm I 89 4 (nI d)) 91 (fun j => I 92 (132 * d + j)) 132) := by
  unfold f_X9_undo
  rw [h4, if_neg (nI_ne0 (by omega) (by omega)), nI_pred]
  have key := fill_loop (l_X9_undo_22 (fun I3 => some ((I3 89 4), I3))) (fun I3 => some ((I3 89 4), I3)) 91 132 (fun j => I 92 (132 * d + j)) (stm I 89 4 (nI d)) ?_ ?_ fuel (by rw [fuel_v]; decide)
  · refine key.trans ?_
    rw [fil_row (by decide), stm_at]
  · intro f i hi
    rw [u_X9_undo_22]
    unfold b_X9_undo_22
    rw [if_neg (show ¬ (132 : Int32) ≤ nI i from nI_ge hi (by decide)), fil_row (by decide), stm_at, show (132 : Int32) * nI d + nI i = nI (132 * d + i) by rw [show (132 : Int32) * nI d = nI (132 * d) from nI_mul 132 d, nI_add], ck_t (inb_n (by omega) (by decide)), ck_t (inb_n hi (by decide)), nI_tn (by omega), nI_tn (by omega), nI_1, fil_row (by decide), stm_row (by decide)]
  · intro f
    rw [u_X9_undo_22]
    unfold b_X9_undo_22
    rw [if_pos (by decide)]
def whS (I : Mem) (i : Nat) : Mem := upR I 91 (fun j => if 28 ≤ j ∧ j < 28 + i then 0 else I 91 j)
theorem s_wholes (I : Mem) : f_X9_wholes I = some (whS I 104) := by
  unfold f_X9_wholes
  have hS0 : I = whS I 0 := by
    funext i
    unfold whS upR
    by_cases hi : i = 91
    · rw [if_pos hi, hi]
      funext j
      rw [if_neg (by omega)]
    · rw [if_neg hi]
  have key := iter_loop (fun f x M => l_X9_wholes_2 (fun I2 => some I2) f x M) (some (whS I 104)) 0 104 (whS I) (by decide) ?_ ?_ fuel (by rw [fuel_v]; decide)
  · rw [← hS0] at key
    exact key
  · intro f i _ hi
    show l_X9_wholes_2 _ (f + 1) (nI i) _ = l_X9_wholes_2 _ f (nI (i + 1)) _
    rw [u_X9_wholes_2]
    unfold b_X9_wholes_2
    rw [if_neg (show ¬ (104 : Int32) ≤ nI i from nI_ge hi (by decide)), show (28 : Int32) + nI i = nI (28 + i) from nI_add 28 i, ck_t (inb_n (by omega) (by decide)), nI_tn (by omega), nI_1]
    congr 1
    unfold whS
    rw [stm_upR]
    congr 1
    funext j
    unfold upd
    by_cases hj : j = 28 + i
    · rw [if_pos hj, if_pos (by omega)]
    · rw [if_neg hj]
      show (if 28 ≤ j ∧ j < 28 + i then _ else _) = _
      by_cases hj2 : 28 ≤ j ∧ j < 28 + i
      · rw [if_pos hj2, if_pos (by omega)]
      · rw [if_neg hj2, if_neg (by omega)]
  · intro f
    show l_X9_wholes_2 _ (f + 1) (nI 104) _ = _
    rw [u_X9_wholes_2]
    unfold b_X9_wholes_2
    rw [if_pos (by decide)]
