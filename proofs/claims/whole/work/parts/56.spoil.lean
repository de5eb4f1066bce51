/-! SPOIL: the plan and the book do not look at what is spoiled -/
def eqT (τ τ' : Td) : Prop := ∀ i, i < 16 → τ i = τ' i
theorem lsD_eq {z z' p p' : Nat → Nat} {S : Nat} (h : ∀ k, k < S → z k = z' k ∧ p k = p' k) : ∀ d, d ≤ S → lsD z p S d = lsD z' p' S d := by
  intro d
  induction d with
  | zero => intro _; rfl
  | succ d ih =>
    intro hd
    show dp (z (S - (d + 1))) (p (S - (d + 1))) (lsD z p S d) = dp (z' (S - (d + 1))) (p' (S - (d + 1))) (lsD z' p' S d)
    rw [(h (S - (d + 1)) (by omega)).1, (h (S - (d + 1)) (by omega)).2, ih (by omega)]
theorem ls_eq {z z' p p' : Nat → Nat} {S : Nat} (h : ∀ k, k < S → z k = z' k ∧ p k = p' k) : ls z p S = ls z' p' S := by
  funext k u
  unfold ls
  rw [lsD_eq h (S - k) (by omega)]
theorem mo_eq {z z' p p' : Nat → Nat} {S : Nat} (h : ∀ k, k < S → z k = z' k ∧ p k = p' k) {k : Nat} (hk : k < S) (u : Nat) : mo z p S k u = mo z' p' S k u := by
  unfold mo
  have : Pm z p S k u = Pm z' p' S k u := by
    funext m
    unfold Pm
    rw [ls_eq h, (h k hk).1, (h k hk).2]
  rw [this, (h k hk).1]
theorem rs_eq {z z' p p' : Nat → Nat} {S : Nat} (h : ∀ k, k < S → z k = z' k ∧ p k = p' k) (u : Nat) : ∀ k, k ≤ S → rs z p S u k = rs z' p' S u k := by
  intro k
  induction k with
  | zero => intro _; rfl
  | succ k ih =>
    intro hk
    show rs z p S u k - mo z p S k (rs z p S u k) * z k = rs z' p' S u k - mo z' p' S k (rs z' p' S u k) * z' k
    rw [ih (by omega), mo_eq h (by omega), (h k (by omega)).1]
theorem eqT.e_zp {τ τ' : Td} (hW : WF τ) (h : eqT τ τ') : ∀ k, k < τ 3 → zt τ k = zt τ' k ∧ pt τ k = pt τ' k := by
  have hS := hW.2.2.2.1.2
  intro k hk
  constructor
  · show 2 ^ (τ (8 + k) - 1) = 2 ^ (τ' (8 + k) - 1)
    rw [h (8 + k) (by omega)]
  · exact h (4 + k) (by omega)
theorem eqT.e_lt {τ τ' : Td} (hW : WF τ) (h : eqT τ τ') : lt' τ = lt' τ' := by
  funext k u
  unfold lt'
  rw [ls_eq (h.e_zp hW), h 3 (by decide)]
theorem eqT.e_un {τ τ' : Td} (hW : WF τ) (h : eqT τ τ') (n : Nat) : un τ n = un τ' n := by
  unfold un
  rw [h.e_lt hW]
theorem eqT.e_pl {τ τ' : Td} (hW : WF τ) (h : eqT τ τ') (n k : Nat) : plF τ n k = plF τ' n k := by
  have h3 := h 3 (by decide)
  unfold plF
  rw [← h3]
  by_cases hk : k < τ 3
  · rw [if_pos hk, if_pos hk, mo_eq (h.e_zp hW) hk]
    congr 1
    unfold rsT
    rw [rs_eq (h.e_zp hW) _ k (by omega), h.e_un hW, h3]
  · rw [if_neg hk, if_neg hk]
theorem eqT.e_pK {τ τ' : Td} (hW : WF τ) (h : eqT τ τ') : pK τ = pK τ' := by
  funext k
  show plF τ (τ 0) k = plF τ' (τ' 0) k
  rw [h.e_pl hW, h 0 (by decide)]
theorem eqT.e_sc {τ τ' : Td} (hW : WF τ) (h : eqT τ τ') : scN τ = scN τ' := by
  funext j
  unfold scN
  rw [h.e_pK hW]
theorem eqT.e_tS {τ τ' : Td} (hW : WF τ) (h : eqT τ τ') : tS τ = tS τ' := by
  unfold tS
  rw [h.e_pK hW]
theorem eqT.e_z {τ τ' : Td} (h : eqT τ τ') {k : Nat} (hk : k < 8) : zt τ k = zt τ' k := by
  show 2 ^ (τ (8 + k) - 1) = 2 ^ (τ' (8 + k) - 1)
  rw [h (8 + k) (by omega)]
theorem scN_4 (τ : Td) (j : Nat) : scN τ j < 4 := by
  unfold scN
  by_cases a : j < pK τ 0
  · rw [if_pos a]; decide
  · rw [if_neg a]
    by_cases b : j < pK τ 0 + pK τ 1
    · rw [if_pos b]; decide
    · rw [if_neg b]
      by_cases c : j < pK τ 0 + pK τ 1 + pK τ 2
      · rw [if_pos c]; decide
      · rw [if_neg c]; decide
theorem eqT.e_hA {τ τ' : Td} (hW : WF τ) (h : eqT τ τ') : ∀ j, hA τ j = hA τ' j
  | 0 => rfl
  | j + 1 => by
    show hA τ j + 2 * zt τ (scN τ j) = hA τ' j + 2 * zt τ' (scN τ' j)
    rw [eqT.e_hA hW h j, ← h.e_sc hW, h.e_z (by have := scN_4 τ j; omega)]
theorem eqT.e_pP {τ τ' : Td} (hW : WF τ) (h : eqT τ τ') : pP τ = pP τ' := by
  show 4 * un τ (τ 0) = 4 * un τ' (τ' 0)
  rw [h.e_un hW, h 0 (by decide)]
theorem eqT.e_pg {τ τ' : Td} (hW : WF τ) (h : eqT τ τ') (j : Nat) : pgN τ j = pgN τ' j := by
  unfold pgN
  rw [← h.e_sc hW, h.e_z (by have := scN_4 τ j; omega)]
theorem eqT.e_num {τ τ' : Td} (hW : WF τ) (h : eqT τ τ') (j q : Nat) : num τ j q = num τ' j q := by
  unfold num
  rw [h 2 (by decide), ← h.e_sc hW, h.e_z (k := scN τ j) (by have := scN_4 τ j; omega), h.e_pP hW, h.e_hA hW, h.e_pg hW]
theorem eqT.e_PLX {I : Mem} {τ τ' : Td} (hW : WF τ) (h : eqT τ τ') (hP : PLX I τ) : PLX I τ' := by
  unfold PLX at *
  rw [← h.e_lt hW, ← h.e_un hW, ← h 0 (by decide), ← h 3 (by decide)]
  refine ⟨hP.1, fun k hk => ?_, hP.2.2⟩
  rw [← h.e_pl hW]
  exact hP.2.1 k hk
theorem eqT.e_BX {I : Mem} {τ τ' : Td} (hW : WF τ) (h : eqT τ τ') (hB : BX I τ) : BX I τ' := by
  obtain ⟨⟨b0, b1, b2⟩, b3⟩ := hB
  refine ⟨⟨by rw [← h.e_tS hW]; exact b0, by rw [← h.e_tS hW, ← h.e_hA hW]; exact b1, fun i hi => ?_⟩, fun j q c1 c2 c3 c4 => ?_⟩
  · rw [← h.e_sc hW, ← h.e_hA hW]
    exact b2 i (by rw [h.e_tS hW]; exact hi)
  · rw [← h.e_tS hW] at c1 c4
    rw [← h.e_pg hW] at c3
    rw [← h.e_num hW]
    exact b3 j q c1 c2 c3 c4
def spT (τ : Td) (j v : Nat) : Td := fun i => if i = 16 + j then v else τ i
theorem spT_lo {τ : Td} {j v i : Nat} (h : i < 16) : spT τ j v i = τ i := if_neg (by omega)
theorem spT_at (τ : Td) (j v : Nat) : spT τ j v (16 + j) = v := if_pos rfl
theorem spT_ne {τ : Td} {j v i : Nat} (h : i ≠ j) : spT τ j v (16 + i) = τ (16 + i) := if_neg (by omega)
theorem spT_WF {τ : Td} (hW : WF τ) {j v : Nat} (hv : v ≤ 1) : WF (spT τ j v) := by
  obtain ⟨w0, w1, w2, w3, w4, w5⟩ := hW
  unfold WF
  rw [spT_lo (show 0 < 16 by decide), spT_lo (show 1 < 16 by decide), spT_lo (show 2 < 16 by decide), spT_lo (show 3 < 16 by decide)]
  refine ⟨w0, w1, w2, w3, fun k hk => ?_, fun i hi => ?_⟩
  · rw [spT_lo (by omega), spT_lo (by omega), spT_lo (by omega)]
    exact w4 k hk
  · by_cases e : i = j
    · rw [e, spT_at]; exact hv
    · rw [spT_ne e]; exact w5 i hi
theorem spT_TM {g : Nat → Int32} {τ : Td} (hW : WF τ) (hT : TM g τ) {j v : Nat} (hj : j < 100) : TM (upd g (28 + j) (nI v)) (spT τ j v) := by
  have hS := hW.four
  have lo : ∀ i, i ≠ 28 + j → upd g (28 + j) (nI v) i = g i := fun i hi => if_neg hi
  unfold TM
  rw [spT_lo (show 3 < 16 by decide)]
  refine ⟨fun i hi => ?_, fun k hk => ?_, fun i hi => ?_, fun i hi => ?_⟩
  · rw [lo _ (by omega), spT_lo (by omega)]; exact hT.1 i hi
  · have h4 := hS.2 k hk
    rw [spT_lo (show 8 + k < 16 by omega), spT_lo (show 12 + k < 16 by omega), spT_lo (show 4 + k < 16 by omega), lo _ (by omega), lo _ (by omega)]
    obtain ⟨t1, t2, t3⟩ := hT.2.1 k hk
    exact ⟨t1, t2, fun i hi => by rw [lo _ (by omega)]; exact t3 i hi⟩
  · by_cases e : i = j
    · rw [e, spT_at]; exact if_pos rfl
    · rw [lo _ (by omega), spT_ne e]; exact hT.2.2.1 i hi
  · rw [lo _ (by omega)]; exact hT.2.2.2 i hi
/-- spoil(sheet, value) -/
theorem q_spoil {I : Mem} {L : Nat} {x : Nat → Nat} {τ : Td} {d : Nat} {us : Nat → Td} (hC : IC I L x τ d us) (hM : IM I L x τ d us) (y w : Int32) : Sm (f_X8_spoil y w) (f_X9_spoil y w) I := by
  have hW := hC.wf
  have hS := hW.2.2.2.1.2
  have h100 := tS_le hW
  have hu := hC.2.2.2.2.1
  have hB := hC.book.1
  obtain ⟨J, j1, j2, j3, j4⟩ := s_sheetMany hW hM.told
  rcases arg_cases y (tS τ) with ⟨j, hj, -, rfl⟩ | hy
  rotate_left 1
  · refine Sm_q hC hM (v := -1) ?_ ⟨J, ?_, MF.plan j3 j4⟩
    · unfold f_X8_spoil
      rw [s_sht8_no hW hB hy, bI_some, if00]
    · unfold f_X9_spoil
      rw [s_sht9_no hW j1 hy, bI_some, if00]
  have hck : ∀ {α : Type} (z : Option α), ck (inb (nI j) 100) z = z := fun z => ck_t (inb_n (show j < 100 by omega) (by decide))
  have hck9 : ∀ {α : Type} (z : Option α), ck (inb ((28 : Int32) + nI j) 132) z = z := fun z => by rw [show (28 : Int32) + nI j = nI (28 + j) from nI_add 28 j]; exact ck_t (inb_n (show 28 + j < 132 by omega) (by decide))
  have htn : tn ((28 : Int32) + nI j) = 28 + j := by rw [show (28 : Int32) + nI j = nI (28 + j) from nI_add 28 j, nI_tn (by omega)]
  rcases arg_cases w 2 with ⟨v, hv, -, rfl⟩ | hw
  rotate_left 1
  · refine Sm_q hC hM (v := -1) ?_ ⟨J, ?_, MF.plan j3 j4⟩
    · unfold f_X8_spoil
      rw [s_sht8 hW hB hj, bI_some, if10]
      rcases neg_or hw (by decide) with h | ⟨h1, h2⟩
      · rw [if_pos h]
      · rw [if_neg h1, if_neg (fun q => by
          have a1 := le_T.mp q
          have a2 := le_T.mp h2
          have e1 : (nI 2).toInt = 2 := rfl
          have e2 : (1 : Int32).toInt = 1 := rfl
          omega)]
    · unfold f_X9_spoil
      rw [s_sht9 hW j1 hj, bI_some, if10, in_no (b := 0) (c := 1) rfl rfl (by omega), bI_some, if00]
  have hs1 := hW.2.2.2.2.2 j (by omega)
  have e8 : f_X8_spoil (nI j) (nI v) I = (if nI (τ (16 + j)) = nI v then some ((-2 : Int32), I) else bV (f_X1_keep_15_3 I) fun I4 => bI (f_X7_spoiledSheets (stm I4 8 j (nI v))) fun r7 I6 => some (r7, I6)) := by
    unfold f_X8_spoil
    rw [s_sht8 hW hB hj, bI_some, if10, if_neg (nI_pos (by omega)), if_pos (show nI v ≤ (1 : Int32) from nI_le (b := 1) (by omega) (by decide)), hck, nI_tn (by omega), show I 8 j = nI (τ (16 + j)) from hC.told.2.2.2 j (by omega)]
    simp only [hck]
  have e9 : ∀ I J, f_X9_sheetMany I = some (nI (tS τ), J) → TM (J 91) τ → f_X9_spoil (nI j) (nI v) I = (if nI (τ (16 + j)) = nI v then some ((-2 : Int32), J) else bV (f_X9_note J) fun I6 => bI (f_X9_spoiledMany (stm I6 91 (28 + j) (nI v))) fun r9 I8 => some (r9, I8)) := by
    intro I J hJ hT
    unfold f_X9_spoil
    rw [s_sht9 hW hJ hj, bI_some, if10, in_k (b := 0) (c := 1) (by omega) rfl rfl (by omega) (by omega), bI_some, if10, hck9, htn, hT.2.2.1 j (by omega)]
    simp only [hck9]
  by_cases he : τ (16 + j) = v
  · refine Sm_q hC hM (v := -2) ?_ ⟨J, ?_, MF.plan j3 j4⟩
    · rw [e8, if_pos (by rw [he])]
    · rw [e9 I J j1 j2.2.2, if_pos (by rw [he])]
  · obtain ⟨I4, κ', k1, k2, k3⟩ := keep8 hC
    have heq : eqT τ (spT τ j v) := fun i hi => (spT_lo hi).symm
    have hW' : WF (spT τ j v) := spT_WF hW (by omega)
    generalize hN : stm I4 8 j (nI v) = N
    have hNr : ∀ r, r ≠ 8 → N r = I4 r := fun r hr => by rw [← hN, stm_row hr]
    have hN8 : ∀ i, i < 100 → N 8 i = nI (spT τ j v (16 + i)) := fun i hi => by
      rw [← hN]
      by_cases e : i = j
      · rw [e, stm_at, spT_at]
      · rw [stm_ne e, k3 8 (by decide), spT_ne e]; exact hC.told.2.2.2 i hi
    have hCN : IC N L x (spT τ j v) (pd d) (pu d us τ) := by
      obtain ⟨⟨l1, l2, l3⟩, -, hT, -, h5, h6, h7, h8⟩ := id hC
      refine ⟨?_, hW', ?_, ⟨κ', k2.same (fun r _ _ => hNr r (by omega))⟩, pu_WF hC.dle hW hu, ?_, ?_, ?_⟩
      · rw [hNr 1 (by decide), hNr 2 (by decide), k3 1 (by decide), k3 2 (by decide)]
        exact ⟨l1, l2, l3⟩
      · refine ⟨?_, ?_, ?_, hN8⟩
        · rw [hNr 3 (by decide), k3 3 (by decide), spT_lo (by decide)]; exact hT.1
        · intro i hi
          show N 4 i = _
          rw [hNr 4 (by decide), k3 4 (by decide), spT_lo (by omega)]; exact hT.2.1 i hi
        · rw [spT_lo (show 3 < 16 by decide)]
          intro k hk
          show N 5 k = _ ∧ N 6 k = _ ∧ N 7 k = _
          rw [hNr 5 (by decide), hNr 6 (by decide), hNr 7 (by decide), k3 5 (by decide), k3 6 (by decide), k3 7 (by decide), spT_lo (by omega), spT_lo (by omega), spT_lo (by omega)]; exact hT.2.2.1 k hk
      · rw [spT_lo (show 3 < 16 by decide)]
        intro k hk
        rw [spT_lo (by omega), spT_lo (by omega)]
        exact (h6 k hk).rows (fun r _ _ => by rw [hNr r (by omega), k3 r (by omega)])
      · exact (eqT.e_PLX hW heq h7).same (fun r _ _ => by rw [hNr r (by omega), k3 r (by omega)])
      · exact (eqT.e_BX hW heq h8).rows (fun r _ _ => by rw [hNr r (by omega), k3 r (by omega)])
    have hr9 : ∀ r, 89 ≤ r → N r = I r := fun r hr => by rw [hNr r (by omega), k3 r (by omega)]
    have hMN : IM N L x τ d us := hM.same (by rw [hr9 89 (by decide)]) (by rw [hr9 89 (by decide)]) (hr9 90 (by decide)) (hr9 91 (by decide)) (hr9 92 (by decide))
    obtain ⟨P, p1, p2, p3, p4⟩ := s_sheetMany hW hMN.told
    have hMP := hMN.mf (MF.plan p3 p4)
    obtain ⟨Q, q1, q2, q3, q4⟩ := note9 hW hu hMP
    generalize hR : stm Q 91 (28 + j) (nI v) = R
    have hR91 : R 91 = upd (P 91) (28 + j) (nI v) := by
      rw [← hR]
      unfold stm
      rw [upR_at, q3 91 (by decide) (by decide)]
    have hTR : TM (R 91) (spT τ j v) := by
      rw [hR91]
      exact spT_TM hW hMP.told (by omega)
    obtain ⟨r1, r2⟩ := chg9 (M := R) hMP q2 q3 q4 (fun r hr => by rw [← hR, stm_row hr]) hTR
    refine ⟨nI (spN (spT τ j v) 100), N, R, ?_, ?_, L, x, spT τ j v, pd d, pu d us τ, hCN.same (fun r hr => by rw [r2 r (by omega), p3 r (by omega) (by omega) (by omega)]), r1⟩
    · rw [e8, if_neg (fun q => he ((nI_eq (by omega) (by omega)).mp q)), k1, bV_some, hN, s_spoiledSheets hN8, bI_some]
    · rw [e9 N P p1 p2.2.2, if_neg (fun q => he ((nI_eq (by omega) (by omega)).mp q)), q1, bV_some, hR, s_spoiledMany hTR.2.2.1 hTR.2.2.2, bI_some]
