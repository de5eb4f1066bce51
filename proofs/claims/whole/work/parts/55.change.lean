/-! CALLS THAT CHANGE WHAT IS TOLD -/
theorem s_settle {I : Mem} {τ : Td} (hW : WF τ) (hT : TX I 3 τ) : ∃ I', f_X8_settle I = some I' ∧ (∀ k, k < τ 3 → SH I' (54 + 4 * k) (τ (8 + k)) (τ (12 + k))) ∧ PLX I' τ ∧ BX I' τ ∧ ∀ r, r < 54 ∨ (70 ≤ r ∧ r < 76) ∨ 89 ≤ r → I' r = I r := by
  have hS := hW.2.2.2.1.2
  unfold f_X8_settle
  have key := inv_loop (fun f x M => l_X8_settle_2 (fun I5 => bV (f_X4_make_76_3 I5) fun I6 => bV (f_X0_arrange_84_3_76 I6) fun I7 => some I7) f x M) (fun I5 => bV (f_X4_make_76_3 I5) fun I6 => bV (f_X0_arrange_84_3_76 I6) fun I7 => some I7) (fun k M => (∀ j, j < k → SH M (54 + 4 * j) (τ (8 + j)) (τ (12 + j))) ∧ ∀ r, r < 54 ∨ 70 ≤ r → M r = I r) 0 (τ 3) (Nat.zero_le _) ?_ ?_ fuel I (by rw [fuel_v]; omega) ⟨fun j hj => by omega, fun _ _ => rfl⟩
  · obtain ⟨M, ⟨a1, a2⟩, a3⟩ := key
    rw [show nI 0 = (0 : Int32) from rfl] at a3
    rw [a3]
    have hTM : TX M 3 τ := hT.rows (fun r _ _ => a2 r (by omega))
    obtain ⟨M1, b1, b2, b3⟩ := s_make hW hTM
    have hT1 : TX M1 3 τ := hTM.rows (fun r _ _ => b3 r (by omega))
    obtain ⟨M2, c1, c2, c3⟩ := s_arrange hW hT1 b2.2.1
    rw [b1, bV_some, c1, bV_some]
    refine ⟨M2, rfl, fun k hk => (a1 k hk).rows (fun r _ _ => by rw [c3 r (by omega), b3 r (by omega)]), b2.same (fun r _ _ => c3 r (by omega)), c2, fun r hr => by rw [c3 r (by omega), b3 r (by omega), a2 r (by omega)]⟩
  · intro f k M _ hk ⟨b1, b2⟩
    have hTM : TX M 3 τ := hT.rows (fun r _ _ => b2 r (by omega))
    obtain ⟨hn, hn1, hc⟩ := vld_n (hW.2.2.2.2.1 k hk).2
    obtain ⟨t1, t2, -⟩ := hTM.2.2.1 k hk
    obtain ⟨M', c1, c2, c3⟩ := s_foldBy (54 + 4 * k) hn hc M
    refine ⟨M', ⟨fun j hj => ?_, fun r hr => by rw [c3 r (by omega), b2 r hr]⟩, ?_⟩
    · by_cases e : j = k
      · rw [e]; exact c2
      · exact (b1 j (by omega)).rows (fun r _ _ => c3 r (by omega))
    · show l_X8_settle_2 _ (f + 1) (nI k) M = l_X8_settle_2 _ f (nI (k + 1)) M'
      rw [u_X8_settle_2]
      unfold b_X8_settle_2
      rw [hTM.1, if_neg (nI_ge hk (by omega)), ck_t (inb_n (show k < 4 by omega) (by decide)), ck_t (inb_n (show k < 4 by omega) (by decide)), ck_t (inb_n (show k < 4 by omega) (by decide)), nI_tn (by omega), show M 5 k = nI (τ (8 + k)) from t1, show M 6 k = nI (τ (12 + k)) from t2, c1, bV_some, nI_1]
  · intro f M ⟨b1, b2⟩
    show l_X8_settle_2 _ (f + 1) (nI (τ 3)) M = _
    rw [u_X8_settle_2]
    unfold b_X8_settle_2
    rw [b2 3 (by decide), hT.1, if_pos (nI_le (Nat.le_refl _) (by omega))]
/-- told, but for what is spoiled -/
def TXn (I : Mem) (τ : Td) : Prop := I 3 0 = nI (τ 3) ∧ (∀ i, i < 3 → I 4 i = nI (τ i)) ∧ ∀ k, k < τ 3 → I 5 k = nI (τ (8 + k)) ∧ I 6 k = nI (τ (12 + k)) ∧ I 7 k = nI (τ (4 + k))
theorem IC.mk' {I : Mem} {L : Nat} {x : Nat → Nat} {τ : Td} {d : Nat} {us : Nat → Td} {κ : Nat → Nat} (h1 : I 1 1 = nI L ∧ L ≤ 200 ∧ ∀ i, i < L → I 2 i = nI (x i) ∧ 32 ≤ x i ∧ x i ≤ 126) (hW : WF τ) (hT : TX I 3 τ) (hH : HX I d us κ) (hu : ∀ i, i < d → WF (us i)) : ∃ I', f_X8_settle I = some I' ∧ IC I' L x τ d us ∧ ∀ r, r < 54 ∨ 89 ≤ r → I' r = I r := by
  obtain ⟨I', a1, a2, a3, a4, a5⟩ := s_settle hW hT
  refine ⟨I', a1, ⟨?_, hW, hT.rows (fun r _ _ => a5 r (by omega)), ⟨κ, hH.same (fun r _ _ => a5 r (by omega))⟩, hu, a2, a3, a4⟩, fun r hr => a5 r (by omega)⟩
  rw [a5 1 (by decide), a5 2 (by decide)]
  exact h1
theorem pu_WF {d : Nat} {us : Nat → Td} {τ : Td} (hd : d ≤ 6) (hW : WF τ) (hu : ∀ i, i < d → WF (us i)) : ∀ i, i < pd d → WF (pu d us τ i) := by
  intro i hi
  unfold pd at hi
  unfold pu
  by_cases h : d < 6
  · rw [if_pos h] at hi ⊢
    show WF (if i = d then τ else us i)
    by_cases e : i = d
    · rw [if_pos e]; exact hW
    · rw [if_neg e]; exact hu i (by omega)
  · rw [if_neg h] at hi ⊢
    show WF (if i = 5 then τ else us (i + 1))
    by_cases e : i = 5
    · rw [if_pos e]; exact hW
    · rw [if_neg e]; exact hu (i + 1) (by omega)
/-- the class keeps what is told -/
theorem keep8 {I : Mem} {L : Nat} {x : Nat → Nat} {τ : Td} {d : Nat} {us : Nat → Td} (hC : IC I L x τ d us) : ∃ I4 κ', f_X1_keep_15_3 I = some I4 ∧ HX I4 (pd d) (pu d us τ) κ' ∧ ∀ i, i < 15 ∨ 53 ≤ i → I4 i = I i := by
  obtain ⟨-, hW, hT, ⟨κ, hH⟩, -⟩ := hC
  exact s_keep hH hT hW.2.2.2.1.2
theorem IC.dle {I : Mem} {L : Nat} {x : Nat → Nat} {τ : Td} {d : Nat} {us : Nat → Td} (hC : IC I L x τ d us) : d ≤ 6 := by
  obtain ⟨-, -, -, ⟨κ, hH⟩, -⟩ := hC
  exact hH.2.1
theorem chg8 {I I4 M : Mem} {L : Nat} {x : Nat → Nat} {τ τ' : Td} {d : Nat} {us : Nat → Td} {κ' : Nat → Nat} (hC : IC I L x τ d us) (hk : HX I4 (pd d) (pu d us τ) κ') (hr4 : ∀ i, i < 15 ∨ 53 ≤ i → I4 i = I i) (hM : ∀ r, r ≠ 4 → r ≠ 5 → r ≠ 6 → r ≠ 7 → M r = I4 r) (hT : TXn M τ') (hW' : WF τ') (h0 : ∀ j, j < 100 → τ' (16 + j) = 0) : ∃ I', f_X8_settleAnew M = some I' ∧ IC I' L x τ' (pd d) (pu d us τ) ∧ ∀ r, 89 ≤ r → I' r = I r := by
  unfold f_X8_settleAnew
  rw [s_unspoil, bV_some]
  generalize hN : fil M 8 (fun _ => 0) 100 = N
  have hNr : ∀ r, r ≠ 8 → N r = M r := fun r hr => by rw [← hN, fil_row hr]
  have hTN : TX N 3 τ' := by
    refine ⟨by rw [hNr 3 (by decide)]; exact hT.1, fun i hi => ?_, fun k hk => ?_, fun j hj => ?_⟩
    · show N 4 i = _
      rw [hNr 4 (by decide)]; exact hT.2.1 i hi
    · show N 5 k = _ ∧ N 6 k = _ ∧ N 7 k = _
      rw [hNr 5 (by decide), hNr 6 (by decide), hNr 7 (by decide)]; exact hT.2.2 k hk
    · show N 8 j = _
      rw [← hN, fil_lt hj, h0 j hj]
      rfl
  obtain ⟨I', a1, a2, a3⟩ := IC.mk' (I := N) (L := L) (x := x) (d := pd d) (us := pu d us τ) (κ := κ') (by
    rw [hNr 1 (by decide), hNr 2 (by decide), hM 1 (by decide) (by decide) (by decide) (by decide), hM 2 (by decide) (by decide) (by decide) (by decide), hr4 1 (by decide), hr4 2 (by decide)]
    exact hC.1) hW' hTN (hk.same (fun r _ _ => by rw [hNr r (by omega), hM r (by omega) (by omega) (by omega) (by omega)])) (pu_WF hC.dle hC.wf hC.2.2.2.2.1)
  rw [a1, bV_some]
  exact ⟨I', rfl, a2, fun r hr => by rw [a3 r (by omega), hNr r (by omega), hM r (by omega) (by omega) (by omega) (by omega), hr4 r (by omega)]⟩
theorem WF.four {τ : Td} (hW : WF τ) : τ 3 ≤ 4 ∧ ∀ k, k < τ 3 → τ (8 + k) ≤ 4 := ⟨hW.2.2.2.1.2, fun k hk => (hW.2.2.2.2.1 k hk).2.2.1⟩
/-- the reference notes what is told -/
theorem note9 {I : Mem} {L : Nat} {x : Nat → Nat} {τ : Td} {d : Nat} {us : Nat → Td} (hW : WF τ) (hu : ∀ i, i < d → WF (us i)) (hM : IM I L x τ d us) : ∃ J, f_X9_note I = some J ∧ HM J (pd d) (pu d us τ) ∧ (∀ i, i ≠ 92 → i ≠ 89 → J i = I i) ∧ ∀ k, k ≠ 4 → J 89 k = I 89 k := s_note hM.2.2.2 hM.told hW.four.1 hW.four.2 (fun i hi => (hu i hi).four)
theorem chg9 {I J M : Mem} {L : Nat} {x : Nat → Nat} {τ τ' : Td} {d : Nat} {us : Nat → Td} (hM : IM I L x τ d us) (hH : HM J (pd d) (pu d us τ)) (hJ : ∀ i, i ≠ 92 → i ≠ 89 → J i = I i) (hJ9 : ∀ k, k ≠ 4 → J 89 k = I 89 k) (hMr : ∀ r, r ≠ 91 → M r = J r) (hT : TM (M 91) τ') : IM M L x τ' (pd d) (pu d us τ) ∧ ∀ r, r < 89 → M r = I r := by
  refine ⟨⟨?_, ?_, hT, ?_⟩, ?_⟩
  · rw [hMr 89 (by decide), hJ9 0 (by decide)]; exact hM.1
  · rw [hMr 90 (by decide), hJ 90 (by decide) (by decide)]; exact hM.2.1
  · unfold HM
    rw [hMr 89 (by decide), hMr 92 (by decide)]
    exact hH
  · intro r hr
    rw [hMr r (by omega), hJ r (by omega) (by omega)]
def stT (τ : Td) (i v : Nat) : Td := fun j => if j = i then v else if 16 ≤ j then 0 else τ j
theorem stT_at (τ : Td) (i v : Nat) : stT τ i v i = v := if_pos rfl
theorem stT_ne {τ : Td} {i v j : Nat} (h : j ≠ i) (hj : j < 16) : stT τ i v j = τ j := by
  unfold stT
  rw [if_neg h, if_neg (by omega)]
theorem stT_sp {τ : Td} {i v j : Nat} (h : i < 16) : stT τ i v (16 + j) = 0 := by
  unfold stT
  rw [if_neg (by omega), if_pos (by omega)]
theorem stT_TM {g : Nat → Int32} {τ : Td} (hW : WF τ) (hT : TM g τ) {i v : Nat} (hi : i < 3 ∨ (4 ≤ i ∧ i < 8)) : TM (fun j => if 28 ≤ j ∧ j < 28 + 104 then 0 else (upd g i (nI v)) j) (stT τ i v) := by
  have hS := hW.four
  have e3 : stT τ i v 3 = τ 3 := stT_ne (by omega) (by decide)
  have lo : ∀ j, j < 28 → (fun j => if 28 ≤ j ∧ j < 28 + 104 then 0 else (upd g i (nI v)) j) j = if j = i then nI v else g j := by
    intro j hj
    show (if 28 ≤ j ∧ j < 28 + 104 then 0 else (upd g i (nI v)) j) = _
    rw [if_neg (by omega)]
    rfl
  refine ⟨?_, ?_, ?_, ?_⟩
  · intro t ht
    rw [lo t (by omega)]
    by_cases e : t = i
    · rw [if_pos e, e, stT_at]
    · rw [if_neg e, stT_ne e (by omega)]; exact hT.1 t ht
  · rw [e3]
    intro k hk
    obtain ⟨t1, t2, t3⟩ := hT.2.1 k hk
    have h4 := hS.2 k hk
    refine ⟨?_, ?_, ?_⟩
    · rw [lo _ (by omega)]
      by_cases e : 4 + k = i
      · rw [if_pos e, e, stT_at]
      · rw [if_neg e, stT_ne e (by omega)]; exact t1
    · rw [lo _ (by omega), if_neg (by omega), stT_ne (by omega) (by omega)]; exact t2
    · rw [stT_ne (show 8 + k ≠ i by omega) (by omega), stT_ne (show 12 + k ≠ i by omega) (by omega)]
      intro j hj
      rw [lo _ (by omega), if_neg (by omega)]; exact t3 j hj
  · intro j hj
    rw [stT_sp (by omega)]
    exact if_pos (by omega)
  · intro j hj
    exact if_pos (by omega)
theorem stT_WF {τ : Td} (hW : WF τ) {i v : Nat} (h : (i = 0 ∧ 1 ≤ v ∧ v ≤ 400) ∨ (i = 1 ∧ v ≤ 20) ∨ (i = 2 ∧ v ≤ 1) ∨ (4 ≤ i ∧ i < 8 ∧ v ≤ 99)) : WF (stT τ i v) := by
  obtain ⟨w0, w1, w2, w3, w4, w5⟩ := hW
  have e3 : stT τ i v 3 = τ 3 := stT_ne (by omega) (by decide)
  refine ⟨?_, ?_, ?_, by rw [e3]; exact w3, ?_, fun j hj => by rw [stT_sp (by omega)]; omega⟩
  · by_cases e : 0 = i
    · rw [show stT τ i v 0 = v by rw [e]; exact stT_at τ i v]; omega
    · rw [stT_ne e (by decide)]; exact w0
  · by_cases e : 1 = i
    · rw [show stT τ i v 1 = v by rw [e]; exact stT_at τ i v]; omega
    · rw [stT_ne e (by decide)]; exact w1
  · by_cases e : 2 = i
    · rw [show stT τ i v 2 = v by rw [e]; exact stT_at τ i v]; omega
    · rw [stT_ne e (by decide)]; exact w2
  · rw [e3]
    intro k hk
    rw [stT_ne (show 8 + k ≠ i by omega) (by omega), stT_ne (show 12 + k ≠ i by omega) (by omega)]
    refine ⟨?_, (w4 k hk).2⟩
    by_cases e : 4 + k = i
    · rw [show stT τ i v (4 + k) = v by rw [e]; exact stT_at τ i v]; omega
    · rw [stT_ne e (by omega)]; exact (w4 k hk).1
theorem s_becomes {I : Mem} {L : Nat} {x : Nat → Nat} {τ : Td} {d : Nat} {us : Nat → Td} (hW : WF τ) (hu : ∀ i, i < d → WF (us i)) (hM : IM I L x τ d us) {i v : Nat} (hi : i < 3 ∨ (4 ≤ i ∧ i < 8)) (hg : I 91 i = nI (τ i)) (hv : v < 2 ^ 30) (ht : τ i < 2 ^ 30) : (τ i = v → f_X9_becomes (nI i) (nI v) I = some (-2, I)) ∧ (τ i ≠ v → ∃ J, f_X9_becomes (nI i) (nI v) I = some (nI (τ i), J) ∧ IM J L x (stT τ i v) (pd d) (pu d us τ) ∧ ∀ r, r < 89 → J r = I r) := by
  unfold f_X9_becomes
  rw [ck_t (inb_n (show i < 132 by omega) (by decide)), nI_tn (by omega), hg]
  constructor
  · intro e
    rw [if_pos (by rw [e])]
  · intro e
    obtain ⟨J, j1, j2, j3, j4⟩ := note9 hW hu hM
    rw [if_neg (fun q => e ((nI_eq (by omega) (by omega)).mp q)), j1, bV_some, ck_t (inb_n (show i < 132 by omega) (by decide)), s_wholes, bV_some]
    refine ⟨_, rfl, ?_⟩
    refine chg9 hM j2 j3 j4 ?_ ?_
    · intro r hr
      unfold whS
      rw [upR_ne hr, stm_row hr]
    · unfold whS
      rw [upR_at]
      have hT := stT_TM (v := v) hW hM.told hi
      have e91 : stm J 91 i (nI v) 91 = upd (I 91) i (nI v) := by
        unfold stm
        rw [upR_at, j3 91 (by decide) (by decide)]
      rw [e91]
      exact hT
/-- tell(what, value) -/
theorem q_tell {I : Mem} {L : Nat} {x : Nat → Nat} {τ : Td} {d : Nat} {us : Nat → Td} (hC : IC I L x τ d us) (hM : IM I L x τ d us) (y w : Int32) : Sm (f_X8_tell y w) (f_X9_tell y w) I := by
  have hW := hC.wf
  have hu := hC.2.2.2.2.1
  have bad : ∀ (i : Nat) (lo hi : Int), i < 3 → y = nI i → (exv 0 i).toInt = lo → (exv 1 i).toInt = hi → ¬ (lo ≤ w.toInt ∧ w.toInt ≤ hi) → f_X8_tell y w I = some (-1, I) := by
    intro i lo hi hi3 hy hl hh hw
    unfold f_X8_tell
    rw [hy, if_neg (nI_pos (by omega)), if_neg (show ¬ (3 : Int32) ≤ nI i from nI_ge hi3 (by decide)), ck_t (inb_n hi3 (by decide)), nI_tn (by omega), ck_t (inb_n hi3 (by decide))]
    by_cases h1 : w < exv 0 i
    · rw [if_pos h1]
    · rw [if_neg h1, if_neg (fun h2 => hw ⟨by have h9 : ¬ w.toInt < (exv 0 i).toInt := fun q => h1 (lt_T.mpr q); omega, by have := le_T.mp h2; omega⟩)]
  have good : ∀ (i v : Nat), i < 3 → y = nI i → w = nI v → v < 2 ^ 30 → (exv 0 i).toInt ≤ (v : Int) → (v : Int) ≤ (exv 1 i).toInt → ((i = 0 ∧ 1 ≤ v ∧ v ≤ 400) ∨ (i = 1 ∧ v ≤ 20) ∨ (i = 2 ∧ v ≤ 1)) → f_X9_tell y w I = (bI (f_X9_becomes (nI i) (nI v) I) fun r4 I3 => some (r4, I3)) → (∀ J, (∀ r, 89 ≤ r → J r = I r) → f_X9_tell y w J = (bI (f_X9_becomes (nI i) (nI v) J) fun r4 I3 => some (r4, I3))) → Sm (f_X8_tell y w) (f_X9_tell y w) I := by
    intro i v hi3 hy hw hv30 hl hh hok e9 e9'
    have hti : τ i < 2 ^ 30 := by
      have w0 := hW.1.2
      have w1 := hW.2.1
      have w2 := hW.2.2.1
      match i, hi3 with
      | 0, _ => omega
      | 1, _ => omega
      | 2, _ => omega
    have e8 : f_X8_tell y w I = (if nI (τ i) = nI v then some ((-2 : Int32), I) else bV (f_X1_keep_15_3 I) fun I4 => bV (f_X8_settleAnew (stm I4 4 i (nI v))) fun I6 => some (nI (τ i), I6)) := by
      unfold f_X8_tell
      have hl' : ¬ nI v < exv 0 i := fun q => by have := lt_T.mp q; rw [nI_toInt (by omega)] at this; omega
      have hh' : nI v ≤ exv 1 i := le_T.mpr (by rw [nI_toInt (by omega)]; exact hh)
      rw [hy, hw, if_neg (nI_pos (by omega)), if_neg (show ¬ (3 : Int32) ≤ nI i from nI_ge hi3 (by decide)), ck_t (inb_n hi3 (by decide)), nI_tn (by omega), ck_t (inb_n hi3 (by decide)), if_neg hl', if_pos hh', ck_t (inb_n hi3 (by decide)), show I 4 i = nI (τ i) from hC.told.2.1 i hi3]
      have hck3 : ∀ {α : Type} (z : Option α), ck (inb (nI i) 3) z = z := fun z => ck_t (inb_n hi3 (by decide))
      simp only [hck3]
    by_cases he : τ i = v
    · refine Sm_q hC hM (v := -2) ?_ ⟨I, ?_, MF.refl I⟩
      · rw [e8, if_pos (by rw [he])]
      · rw [e9, (s_becomes hW hu hM (Or.inl hi3) (hM.told.1 i (by omega)) hv30 hti).1 he, bI_some]
    · obtain ⟨I4, κ', k1, k2, k3⟩ := keep8 hC
      have hW' : WF (stT τ i v) := stT_WF hW (by omega)
      have e3 : stT τ i v 3 = τ 3 := stT_ne (by omega) (by decide)
      obtain ⟨I', a1, a2, a3⟩ := chg8 (M := stm I4 4 i (nI v)) (τ' := stT τ i v) hC k2 k3 (fun r h _ _ _ => stm_row h) ⟨by rw [stm_row (by decide), k3 3 (by decide), e3]; exact hC.told.1, fun t ht => by
        by_cases e : t = i
        · rw [e, stm_at, stT_at]
        · rw [stm_ne e, k3 4 (by decide), stT_ne e (by omega)]; exact hC.told.2.1 t ht, fun k hk => by
        rw [e3] at hk
        have hS := hW.2.2.2.1.2
        rw [stm_row (by decide), stm_row (by decide), stm_row (by decide), k3 5 (by decide), k3 6 (by decide), k3 7 (by decide), stT_ne (show 8 + k ≠ i by omega) (by omega), stT_ne (show 12 + k ≠ i by omega) (by omega), stT_ne (show 4 + k ≠ i by omega) (by omega)]
        exact hC.told.2.2.1 k hk⟩ hW' (fun j _ => stT_sp (by omega))
      have hM' : IM I' L x τ d us := hM.same (by rw [a3 89 (by decide)]) (by rw [a3 89 (by decide)]) (a3 90 (by decide)) (a3 91 (by decide)) (a3 92 (by decide))
      obtain ⟨J, b1, b2, b3⟩ := (s_becomes hW hu hM' (Or.inl hi3) (hM'.told.1 i (by omega)) hv30 hti).2 he
      refine ⟨nI (τ i), I', J, ?_, ?_, L, x, stT τ i v, pd d, pu d us τ, a2.same (fun r hr => b3 r (by omega)), b2⟩
      · rw [e8, if_neg (fun q => he ((nI_eq (by omega) (by omega)).mp q)), k1, bV_some, a1, bV_some]
      · rw [e9' I' a3, b1, bI_some]
  have j53 : ∀ (J : Mem) (i v : Nat), i < 3 → y = nI i → w = nI v → j_X9_tell_53 y w 1 J = (bI (f_X9_becomes (nI i) (nI v) J) fun r4 I3 => some (r4, I3)) := by
    intro J i v hi hy hw
    unfold j_X9_tell_53
    rw [if10, hy, hw]
    match i, hi with
    | 0, _ => exact if_pos rfl
    | 1, _ => rfl
    | 2, _ => rfl
  rcases arg_cases y 3 with ⟨i, hi, -, hy⟩ | hy
  · match i, hi with
    | 0, _ =>
      by_cases hw : 1 ≤ w.toInt ∧ w.toInt ≤ 400
      · rcases arg_cases w 401 with ⟨v, hv, -, hv'⟩ | h
        · rw [hv', nI_toInt (by omega)] at hw
          have e9 : ∀ J, f_X9_tell y w J = (bI (f_X9_becomes (nI 0) (nI v) J) fun r4 I3 => some (r4, I3)) := by
            intro J
            rw [← j53 J 0 v (by decide) hy hv']
            unfold f_X9_tell
            rw [if_pos (show y = 0 from hy), hv', in_k (b := 1) (c := 400) (by omega) rfl rfl (by omega) (by omega), bI_some]
          exact good 0 v (by decide) hy hv' (by omega) (by have : (exv 0 0).toInt = 1 := rfl; omega) (by have : (exv 1 0).toInt = 400 := rfl; omega) (by omega) (e9 I) (fun J _ => e9 J)
        · omega
      · refine Sm_q hC hM (v := -1) (bad 0 1 400 (by decide) hy rfl rfl hw) ⟨I, ?_, MF.refl I⟩
        unfold f_X9_tell j_X9_tell_53
        rw [if_pos (show y = 0 from hy), in_no (b := 1) (c := 400) rfl rfl (by omega), bI_some, if00]
    | 1, _ =>
      by_cases hw : 0 ≤ w.toInt ∧ w.toInt ≤ 20
      · rcases arg_cases w 21 with ⟨v, hv, -, hv'⟩ | h
        · have e9 : ∀ J, f_X9_tell y w J = (bI (f_X9_becomes (nI 1) (nI v) J) fun r4 I3 => some (r4, I3)) := by
            intro J
            rw [← j53 J 1 v (by decide) hy hv']
            unfold f_X9_tell
            rw [hy, if_neg (show ¬ nI 1 = (0 : Int32) by decide), if_pos (show nI 1 = (1 : Int32) from rfl), hv', in_k (b := 0) (c := 20) (by omega) rfl rfl (by omega) (by omega), bI_some]
          exact good 1 v (by decide) hy hv' (by omega) (by have : (exv 0 1).toInt = 0 := rfl; omega) (by have : (exv 1 1).toInt = 20 := rfl; omega) (by omega) (e9 I) (fun J _ => e9 J)
        · omega
      · refine Sm_q hC hM (v := -1) (bad 1 0 20 (by decide) hy rfl rfl hw) ⟨I, ?_, MF.refl I⟩
        unfold f_X9_tell j_X9_tell_53
        rw [hy, if_neg (show ¬ nI 1 = (0 : Int32) by decide), if_pos (show nI 1 = (1 : Int32) from rfl), in_no (b := 0) (c := 20) rfl rfl (by omega), bI_some, if00]
    | 2, _ =>
      by_cases hw : 0 ≤ w.toInt ∧ w.toInt ≤ 1
      · rcases arg_cases w 2 with ⟨v, hv, -, hv'⟩ | h
        · have e9 : ∀ J, f_X9_tell y w J = (bI (f_X9_becomes (nI 2) (nI v) J) fun r4 I3 => some (r4, I3)) := by
            intro J
            rw [← j53 J 2 v (by decide) hy hv']
            unfold f_X9_tell
            rw [hy, if_neg (show ¬ nI 2 = (0 : Int32) by decide), if_neg (show ¬ nI 2 = (1 : Int32) by decide), if_pos (show nI 2 = (2 : Int32) from rfl), hv', in_k (b := 0) (c := 1) (by omega) rfl rfl (by omega) (by omega), bI_some, if10]
          exact good 2 v (by decide) hy hv' (by omega) (by have : (exv 0 2).toInt = 0 := rfl; omega) (by have : (exv 1 2).toInt = 1 := rfl; omega) (by omega) (e9 I) (fun J _ => e9 J)
        · omega
      · refine Sm_q hC hM (v := -1) (bad 2 0 1 (by decide) hy rfl rfl hw) ⟨I, ?_, MF.refl I⟩
        unfold f_X9_tell j_X9_tell_53
        rw [hy, if_neg (show ¬ nI 2 = (0 : Int32) by decide), if_neg (show ¬ nI 2 = (1 : Int32) by decide), if_pos (show nI 2 = (2 : Int32) from rfl), in_no (b := 0) (c := 1) rfl rfl (by omega), bI_some, if00, if00]
  · refine Sm_q hC hM (v := -1) ?_ ⟨I, ?_, MF.refl I⟩
    · unfold f_X8_tell
      rcases neg_or hy (by decide) with h | ⟨h1, h2⟩
      · rw [if_pos h]
      · rw [if_neg h1, if_pos (show (3 : Int32) ≤ y from h2)]
    · unfold f_X9_tell j_X9_tell_53
      rw [if_neg (show ¬ y = (0 : Int32) from out_ne (k := 0) hy (by decide) (by decide)), if_neg (show ¬ y = (1 : Int32) from out_ne (k := 1) hy (by decide) (by decide)), if_neg (show ¬ y = (2 : Int32) from out_ne (k := 2) hy (by decide) (by decide)), if00]
/-- price(k, value) -/
theorem q_price {I : Mem} {L : Nat} {x : Nat → Nat} {τ : Td} {d : Nat} {us : Nat → Td} (hC : IC I L x τ d us) (hM : IM I L x τ d us) (y w : Int32) : Sm (f_X8_price y w) (f_X9_price y w) I := by
  have hW := hC.wf
  have hS := hW.2.2.2.1.2
  have hu := hC.2.2.2.2.1
  rcases arg_cases y (τ 3) with ⟨k, hk, -, rfl⟩ | hy
  rotate_left 1
  · refine Sm_q hC hM (v := -1) ?_ ⟨I, ?_, MF.refl I⟩
    · unfold f_X8_price
      rw [s_sch8_no hW hC.told hy, bI_some, if00]
    · unfold f_X9_price
      rw [s_sch9_no hW hM.told hy, bI_some, if00]
  have hck : ∀ {α : Type} (z : Option α), ck (inb (nI k) 4) z = z := fun z => ck_t (inb_n (show k < 4 by omega) (by decide))
  rcases arg_cases w 100 with ⟨v, hv, -, rfl⟩ | hw
  rotate_left 1
  · refine Sm_q hC hM (v := -1) ?_ ⟨I, ?_, MF.refl I⟩
    · unfold f_X8_price
      rw [s_sch8 hW hC.told hk, bI_some, if10]
      rcases neg_or hw (by decide) with h | ⟨h1, h2⟩
      · rw [if_pos h]
      · rw [if_neg h1, if_neg (fun q => by
          have a1 := le_T.mp q
          have a2 := le_T.mp h2
          have e1 : (nI 100).toInt = 100 := rfl
          have e2 : (99 : Int32).toInt = 99 := rfl
          omega)]
    · unfold f_X9_price
      rw [s_sch9 hW hM.told hk, bI_some, if10, in_no (b := 0) (c := 99) rfl rfl (by omega), bI_some, if00]
  have hti : τ (4 + k) ≤ 99 := (hW.2.2.2.2.1 k hk).1
  have e9 : ∀ J, TM (J 91) τ → f_X9_price (nI k) (nI v) J = (bI (f_X9_becomes (nI (4 + k)) (nI v) J) fun r4 I3 => some (r4, I3)) := by
    intro J hJ
    unfold f_X9_price
    rw [s_sch9 hW hJ hk, bI_some, if10, in_k (b := 0) (c := 99) (by omega) rfl rfl (by omega) (by omega), bI_some, if10, show (4 : Int32) + nI k = nI (4 + k) from nI_add 4 k]
  have e8 : f_X8_price (nI k) (nI v) I = (if nI (τ (4 + k)) = nI v then some ((-2 : Int32), I) else bV (f_X1_keep_15_3 I) fun I4 => bV (f_X8_settleAnew (stm I4 7 k (nI v))) fun I6 => some (nI (τ (4 + k)), I6)) := by
    unfold f_X8_price
    rw [s_sch8 hW hC.told hk, bI_some, if10, if_neg (nI_pos (by omega)), if_pos (show nI v ≤ (99 : Int32) from nI_le (b := 99) (by omega) (by decide)), hck, nI_tn (by omega), show I 7 k = nI (τ (4 + k)) from (hC.told.2.2.1 k hk).2.2]
    simp only [hck]
  by_cases he : τ (4 + k) = v
  · refine Sm_q hC hM (v := -2) ?_ ⟨I, ?_, MF.refl I⟩
    · rw [e8, if_pos (by rw [he])]
    · rw [e9 I hM.told, (s_becomes hW hu hM (Or.inr ⟨by omega, by omega⟩) (hM.told.2.1 k hk).1 (by omega) (by omega)).1 he, bI_some]
  · obtain ⟨I4, κ', k1, k2, k3⟩ := keep8 hC
    have hW' : WF (stT τ (4 + k) v) := stT_WF hW (by omega)
    have e3 : stT τ (4 + k) v 3 = τ 3 := stT_ne (by omega) (by decide)
    obtain ⟨I', a1, a2, a3⟩ := chg8 (M := stm I4 7 k (nI v)) (τ' := stT τ (4 + k) v) hC k2 k3 (fun r _ _ _ h => stm_row h) ⟨by rw [stm_row (by decide), k3 3 (by decide), e3]; exact hC.told.1, fun t ht => by
      rw [stm_row (by decide), k3 4 (by decide), stT_ne (by omega) (by omega)]; exact hC.told.2.1 t ht, fun j hj => by
      rw [e3] at hj
      rw [stm_row (show 5 ≠ 7 by decide), stm_row (show 6 ≠ 7 by decide), k3 5 (by decide), k3 6 (by decide), stT_ne (show 8 + j ≠ 4 + k by omega) (by omega), stT_ne (show 12 + j ≠ 4 + k by omega) (by omega)]
      obtain ⟨t1, t2, t3⟩ := hC.told.2.2.1 j hj
      refine ⟨t1, t2, ?_⟩
      by_cases e : j = k
      · rw [e, stm_at, stT_at]
      · rw [stm_ne e, k3 7 (by decide), stT_ne (by omega) (by omega)]; exact t3⟩ hW' (fun j _ => stT_sp (by omega))
    have hM' : IM I' L x τ d us := hM.same (by rw [a3 89 (by decide)]) (by rw [a3 89 (by decide)]) (a3 90 (by decide)) (a3 91 (by decide)) (a3 92 (by decide))
    obtain ⟨J, b1, b2, b3⟩ := (s_becomes hW hu hM' (Or.inr ⟨by omega, by omega⟩) (hM'.told.2.1 k hk).1 (show v < 2 ^ 30 by omega) (by omega)).2 he
    refine ⟨nI (τ (4 + k)), I', J, ?_, ?_, L, x, stT τ (4 + k) v, pd d, pu d us τ, a2.same (fun r hr => b3 r (by omega)), b2⟩
    · rw [e8, if_neg (fun q => he ((nI_eq (by omega) (by omega)).mp q)), k1, bV_some, a1, bV_some]
    · rw [e9 I' hM'.told, b1, bI_some]
/-- undo() -/
theorem q_undo {I : Mem} {L : Nat} {x : Nat → Nat} {τ : Td} {d : Nat} {us : Nat → Td} (hC : IC I L x τ d us) (hM : IM I L x τ d us) : Sm f_X8_undo f_X9_undo I := by
  obtain ⟨hTx, hW, hT, ⟨κ, hH⟩, hu, -⟩ := id hC
  have hd := hH.2.1
  cases d with
  | zero =>
    refine Sm_q hC hM (v := -2) ?_ ⟨I, ?_, MF.refl I⟩
    · unfold f_X8_undo
      rw [hH.1, if_pos (show nI 0 = 0 from rfl)]
    · unfold f_X9_undo
      rw [hM.2.2.2.1, if_pos (show nI 0 = 0 from rfl)]
  | succ d =>
    have hWd := hu d (by omega)
    obtain ⟨I1, a1, a2, a3, a4⟩ := s_bring hH hWd.2.2.2.1.2
    obtain ⟨I2, b1, b2, b3⟩ := IC.mk' (I := I1) (L := L) (x := x) (by rw [a4 1 (by decide), a4 2 (by decide)]; exact hTx) hWd a3 a2 (fun i hi => hu i (by omega))
    have hr : ∀ r, 89 ≤ r → I2 r = I r := fun r hr => by rw [b3 r (by omega), a4 r (by omega)]
    have hM2 : IM I2 L x τ (d + 1) us := hM.same (by rw [hr 89 (by decide)]) (by rw [hr 89 (by decide)]) (hr 90 (by decide)) (hr 91 (by decide)) (hr 92 (by decide))
    obtain ⟨m1, m2, m3, m4⟩ := id hM2
    obtain ⟨-, -, -, ⟨κ2, hH2⟩, -⟩ := id b2
    refine ⟨nI d, I2, fil (stm I2 89 4 (nI d)) 91 (fun j => I2 92 (132 * d + j)) 132, ?_, s_undo9 m4.1 (by omega), L, x, us d, d, us, b2.same (fun r hr => by rw [fil_row (by omega), stm_row (by omega)]), ?_, ?_, ?_, ?_⟩
    · unfold f_X8_undo
      rw [hH.1, if_neg (nI_ne0 (by omega) (by omega)), a1, bV_some, b1, bV_some, hH2.1]
    · rw [fil_row (by decide), stm_ne (by decide)]; exact m1
    · rw [fil_row (by decide), stm_row (by decide)]; exact m2
    · refine TM.same hWd.four.1 hWd.four.2 (m4.2.2 d (by omega)) (fun i hi => ?_)
      rw [fil_lt hi]
    · refine ⟨by rw [fil_row (by decide), stm_at], by omega, ?_⟩
      rw [fil_row (show 92 ≠ 91 by decide), stm_row (show 92 ≠ 89 by decide)]
      exact fun k hk => m4.2.2 k (by omega)
theorem chrT : ∀ c, c < 127 → vp_nar .char (((nI c).toUInt32 % 65536).toInt32) = nI c := by decide +kernel
/-- write(c) -/
theorem q_write {I : Mem} {L : Nat} {x : Nat → Nat} {τ : Td} {d : Nat} {us : Nat → Td} (hC : IC I L x τ d us) (hM : IM I L x τ d us) (w : Int32) : Sm (f_X8_write w) (f_X9_write w) I := by
  obtain ⟨⟨l1, l2, l3⟩, hR⟩ := id hC
  obtain ⟨m1, m2, m3, m4⟩ := id hM
  by_cases h1 : w.toInt < 32
  · refine Sm_q hC hM (v := -1) ?_ ⟨I, ?_, MF.refl I⟩
    · unfold f_X8_write
      rw [if_pos (show w < 32 from lt_T.mpr h1)]
    · unfold f_X9_write
      rw [in_no (b := 32) (c := 126) rfl rfl (by omega), bI_some, if00]
  rcases arg_cases w 127 with ⟨c, hc, -, rfl⟩ | hw
  rotate_left 1
  · refine Sm_q hC hM (v := -1) ?_ ⟨I, ?_, MF.refl I⟩
    · unfold f_X8_write
      rw [if_neg (show ¬ w < 32 from fun q => h1 (lt_T.mp q)), if_neg (show ¬ w ≤ 126 from fun q => by
        have a1 := le_T.mp q
        have e1 : (126 : Int32).toInt = 126 := rfl
        omega)]
    · unfold f_X9_write
      rw [in_no (b := 32) (c := 126) rfl rfl (by omega), bI_some, if00]
  rw [nI_toInt (by omega)] at h1
  have e8 : f_X8_write (nI c) I = (if nI L < 200 then bV (f_X6_append ((((nI c)).toUInt32 % 65536).toInt32) I) fun I1 => some ((I1 1 1), I1) else some ((-3 : Int32), I)) := by
    unfold f_X8_write
    rw [if_neg (show ¬ nI c < (32 : Int32) from nI_nlt (b := 32) (by omega) (by omega)), if_pos (show nI c ≤ (126 : Int32) from nI_le (b := 126) (by omega) (by decide)), l1]
  have e9 : ∀ J : Mem, J 89 0 = nI L → f_X9_write (nI c) J = (if nI L = 200 then some ((-3 : Int32), J) else ck (inb (nI L) 200) <| some (((stm (stm J 90 (tn (nI L)) (nI c)) 89 0 (nI L + (1 : Int32))) 89 0), (stm (stm J 90 (tn (nI L)) (nI c)) 89 0 (nI L + (1 : Int32))))) := by
    intro J hJ
    unfold f_X9_write
    rw [in_k (b := 32) (c := 126) (by omega) rfl rfl (by omega) (by omega), bI_some, if10, stm_row (show 89 ≠ 90 by decide), hJ]
  by_cases hL : L = 200
  · refine Sm_q hC hM (v := -3) ?_ ⟨I, ?_, MF.refl I⟩
    · rw [e8, if_neg (show ¬ nI L < 200 from nI_nlt (b := 200) (by omega) (by omega))]
    · rw [e9 I m1, if_pos (show nI L = 200 by rw [hL]; rfl)]
  · have hL2 : L < 200 := by omega
    generalize hI1 : stm (stm I 2 L (nI c)) 1 1 (nI (L + 1)) = I1
    have f8 : f_X6_append ((((nI c)).toUInt32 % 65536).toInt32) I = some I1 := by
      unfold f_X6_append
      rw [l1, if_neg (show ¬ (200 : Int32) ≤ nI L from nI_ge (b := 200) hL2 (by decide)), ck_t (inb_n hL2 (by decide)), nI_tn (by omega), chrT c hc, stm_row (show 1 ≠ 2 by decide), l1, nI_1, hI1]
    have hr1 : ∀ r, r ≠ 1 → r ≠ 2 → I1 r = I r := fun r a b => by rw [← hI1, stm_row a, stm_row b]
    refine ⟨nI (L + 1), I1, stm (stm I1 90 L (nI c)) 89 0 (nI (L + 1)), ?_, ?_, L + 1, fun i => if i = L then c else x i, τ, d, us, ?_, ?_, ?_, ?_, ?_⟩
    · rw [e8, if_pos (show nI L < 200 from nI_lt hL2 (by decide)), f8, bV_some, ← hI1, stm_at]
    · rw [e9 I1 (by rw [hr1 89 (by decide) (by decide)]; exact m1), if_neg (show ¬ nI L = 200 from fun q => hL ((nI_eq (b := 200) (by omega) (by decide)).mp q)), ck_t (inb_n hL2 (by decide)), nI_tn (by omega), nI_1, stm_at]
    · have hC1 : IC I1 (L + 1) (fun i => if i = L then c else x i) τ d us := by
        obtain ⟨h2, h3, ⟨κ, h4⟩, h5, h6, h7, h8⟩ := hR
        refine ⟨⟨by rw [← hI1, stm_at], by omega, fun i hi => ?_⟩, h2, h3.rows (fun r _ _ => hr1 r (by omega) (by omega)), ⟨κ, h4.same (fun r _ _ => hr1 r (by omega) (by omega))⟩, h5, fun k hk => (h6 k hk).rows (fun r _ _ => hr1 r (by omega) (by omega)), h7.same (fun r _ _ => hr1 r (by omega) (by omega)), h8.rows (fun r _ _ => hr1 r (by omega) (by omega))⟩
        rw [← hI1, stm_row (show 2 ≠ 1 by decide)]
        show stm I 2 L (nI c) 2 i = nI (if i = L then c else x i) ∧ 32 ≤ (if i = L then c else x i) ∧ (if i = L then c else x i) ≤ 126
        by_cases e : i = L
        · rw [e, stm_at, if_pos rfl]
          exact ⟨rfl, by omega, by omega⟩
        · rw [stm_ne e, if_neg e]
          exact l3 i (by omega)
      exact hC1.same (fun r hr => by rw [stm_row (by omega), stm_row (by omega)])
    · rw [stm_at]
    · intro i hi
      rw [stm_row (show 90 ≠ 89 by decide)]
      show stm I1 90 L (nI c) 90 i = nI (if i = L then c else x i)
      by_cases e : i = L
      · rw [e, stm_at, if_pos rfl]
      · rw [stm_ne e, if_neg e, hr1 90 (by decide) (by decide)]
        exact m2 i (by omega)
    · rw [stm_row (show 91 ≠ 89 by decide), stm_row (show 91 ≠ 90 by decide), hr1 91 (by decide) (by decide)]
      exact m3
    · unfold HM
      rw [stm_ne (show 4 ≠ 0 by decide), stm_row (show 89 ≠ 90 by decide), stm_row (show 92 ≠ 89 by decide), stm_row (show 92 ≠ 90 by decide), hr1 89 (by decide) (by decide), hr1 92 (by decide) (by decide)]
      exact m4
/-- wipe() -/
theorem q_wipe {I : Mem} {L : Nat} {x : Nat → Nat} {τ : Td} {d : Nat} {us : Nat → Td} (hC : IC I L x τ d us) (hM : IM I L x τ d us) : Sm f_X8_wipe f_X9_wipe I := by
  obtain ⟨⟨l1, l2, l3⟩, hR⟩ := id hC
  obtain ⟨m1, m2, m3, m4⟩ := id hM
  have hr1 : ∀ r, r ≠ 1 → stm I 1 1 (0 : Int32) r = I r := fun r a => stm_row a
  refine ⟨nI L, stm I 1 1 0, stm (stm I 1 1 0) 89 0 0, ?_, ?_, 0, x, τ, d, us, ?_, ?_, ?_, ?_, ?_⟩
  · unfold f_X8_wipe
    rw [l1]
  · unfold f_X9_wipe
    rw [stm_row (show 89 ≠ 1 by decide), m1]
  · have hC1 : IC (stm I 1 1 0) 0 x τ d us := by
      obtain ⟨h2, h3, ⟨κ, h4⟩, h5, h6, h7, h8⟩ := hR
      exact ⟨⟨by rw [stm_at]; rfl, by omega, fun i hi => by omega⟩, h2, h3.rows (fun r _ _ => hr1 r (by omega)), ⟨κ, h4.same (fun r _ _ => hr1 r (by omega))⟩, h5, fun k hk => (h6 k hk).rows (fun r _ _ => hr1 r (by omega)), h7.same (fun r _ _ => hr1 r (by omega)), h8.rows (fun r _ _ => hr1 r (by omega))⟩
    exact hC1.same (fun r hr => by rw [stm_row (by omega)])
  · rw [stm_at]; rfl
  · intro i hi
    omega
  · rw [stm_row (show 91 ≠ 89 by decide), hr1 91 (by decide)]
    exact m3
  · unfold HM
    rw [stm_ne (show 4 ≠ 0 by decide), stm_row (show 92 ≠ 89 by decide), hr1 89 (by decide), hr1 92 (by decide)]
    exact m4
