/-! WHAT HOLDS BETWEEN CALLS; calls that only ask, of told and plan -/
def IC (I : Mem) (L : Nat) (x : Nat → Nat) (τ : Td) (d : Nat) (us : Nat → Td) : Prop :=
  (I 1 1 = nI L ∧ L ≤ 200 ∧ ∀ i, i < L → I 2 i = nI (x i) ∧ 32 ≤ x i ∧ x i ≤ 126) ∧ WF τ ∧ TX I 3 τ ∧ (∃ κ, HX I d us κ) ∧ (∀ i, i < d → WF (us i)) ∧ (∀ k, k < τ 3 → SH I (54 + 4 * k) (τ (8 + k)) (τ (12 + k))) ∧ PLX I τ ∧ BX I τ
def IM (I : Mem) (L : Nat) (x : Nat → Nat) (τ : Td) (d : Nat) (us : Nat → Td) : Prop := I 89 0 = nI L ∧ (∀ i, i < L → I 90 i = nI (x i)) ∧ TM (I 91) τ ∧ HM I d us
theorem IC.wf {I : Mem} {L : Nat} {x : Nat → Nat} {τ : Td} {d : Nat} {us : Nat → Td} (h : IC I L x τ d us) : WF τ := h.2.1
theorem IC.told {I : Mem} {L : Nat} {x : Nat → Nat} {τ : Td} {d : Nat} {us : Nat → Td} (h : IC I L x τ d us) : TX I 3 τ := h.2.2.1
theorem IC.sheet {I : Mem} {L : Nat} {x : Nat → Nat} {τ : Td} {d : Nat} {us : Nat → Td} (h : IC I L x τ d us) {k : Nat} (hk : k < τ 3) : SH I (54 + 4 * k) (τ (8 + k)) (τ (12 + k)) := h.2.2.2.2.2.1 k hk
theorem IC.plan {I : Mem} {L : Nat} {x : Nat → Nat} {τ : Td} {d : Nat} {us : Nat → Td} (h : IC I L x τ d us) : PLX I τ := h.2.2.2.2.2.2.1
theorem IC.book {I : Mem} {L : Nat} {x : Nat → Nat} {τ : Td} {d : Nat} {us : Nat → Td} (h : IC I L x τ d us) : BX I τ := h.2.2.2.2.2.2.2
theorem IM.told {I : Mem} {L : Nat} {x : Nat → Nat} {τ : Td} {d : Nat} {us : Nat → Td} (h : IM I L x τ d us) : TM (I 91) τ := h.2.2.1
theorem HX.same {I I' : Mem} {d : Nat} {us : Nat → Td} {κ : Nat → Nat} (h : HX I d us κ) (e : ∀ r, 15 ≤ r → r < 53 → I' r = I r) : HX I' d us κ := by
  obtain ⟨h1, h2, h3, h4⟩ := h
  refine ⟨by rw [e 15 (by decide) (by decide)]; exact h1, h2, ?_, ?_⟩
  · unfold KK
    rw [e 16 (by decide) (by decide)]
    exact h3
  · intro i hi
    have := h3.1 i (by omega)
    exact (h4 i hi).rows (fun r a b => e r (by omega) (by omega))
theorem PLX.same {I I' : Mem} {τ : Td} (h : PLX I τ) (e : ∀ r, 76 ≤ r → r < 84 → I' r = I r) : PLX I' τ := by
  unfold PLX
  rw [e 78 (by decide) (by decide), e 83 (by decide) (by decide), e 76 (by decide) (by decide)]
  exact h
theorem IC.same {I I' : Mem} {L : Nat} {x : Nat → Nat} {τ : Td} {d : Nat} {us : Nat → Td} (h : IC I L x τ d us) (e : ∀ r, r < 9 ∨ (15 ≤ r ∧ r < 70) ∨ (76 ≤ r ∧ r < 89) → I' r = I r) : IC I' L x τ d us := by
  obtain ⟨h1, h2, h3, ⟨κ, h4⟩, h5, h6, h7, h8⟩ := h
  refine ⟨?_, h2, h3.rows (fun r a b => e r (by omega)), ⟨κ, h4.same (fun r a b => e r (by omega))⟩, h5, ?_, h7.same (fun r a b => e r (by omega)), h8.rows (fun r a b => e r (by omega))⟩
  · rw [e 1 (by decide), e 2 (by decide)]
    exact h1
  · intro k hk
    have hS := h2.2.2.2.1.2
    exact (h6 k hk).rows (fun r a b => e r (by omega))
/-- the reference's asking leaves this as it is -/
def MF (I J : Mem) : Prop := (∀ r, r < 89 → J r = I r) ∧ J 89 0 = I 89 0 ∧ J 89 4 = I 89 4 ∧ J 90 = I 90 ∧ J 91 = I 91 ∧ J 92 = I 92
theorem MF.refl (I : Mem) : MF I I := ⟨fun _ _ => rfl, rfl, rfl, rfl, rfl, rfl⟩
theorem MF.trans {I J K : Mem} (h : MF I J) (g : MF J K) : MF I K := by
  obtain ⟨a, b, c, d, e, f⟩ := h
  obtain ⟨a', b', c', d', e', f'⟩ := g
  exact ⟨fun r hr => by rw [a' r hr, a r hr], by rw [b', b], by rw [c', c], by rw [d', d], by rw [e', e], by rw [f', f]⟩
theorem IM.same {I J : Mem} {L : Nat} {x : Nat → Nat} {τ : Td} {d : Nat} {us : Nat → Td} (h : IM I L x τ d us) (b : J 89 0 = I 89 0) (c : J 89 4 = I 89 4) (d0 : J 90 = I 90) (e : J 91 = I 91) (f : J 92 = I 92) : IM J L x τ d us := by
  unfold IM HM
  rw [b, c, d0, e, f]
  exact h
theorem IM.mf {I J : Mem} {L : Nat} {x : Nat → Nat} {τ : Td} {d : Nat} {us : Nat → Td} (h : IM I L x τ d us) (g : MF I J) : IM J L x τ d us := h.same g.2.1 g.2.2.1 g.2.2.2.1 g.2.2.2.2.1 g.2.2.2.2.2
def Ok (I : Mem) : Prop := ∃ L x τ d us, IC I L x τ d us ∧ IM I L x τ d us
/-- both answer alike, and what holds goes on to hold -/
def Sm (f8 f9 : Mem → Option (Int32 × Mem)) (I : Mem) : Prop := ∃ v I1 I2, f8 I = some (v, I1) ∧ f9 I1 = some (v, I2) ∧ Ok I2
theorem Sm_q {f8 f9 : Mem → Option (Int32 × Mem)} {I : Mem} {L : Nat} {x : Nat → Nat} {τ : Td} {d : Nat} {us : Nat → Td} (hC : IC I L x τ d us) (hM : IM I L x τ d us) {v : Int32} (h8 : f8 I = some (v, I)) (h9 : ∃ J, f9 I = some (v, J) ∧ MF I J) : Sm f8 f9 I := by
  obtain ⟨J, a, b⟩ := h9
  exact ⟨v, I, J, h8, a, L, x, τ, d, us, hC.same (fun r hr => b.1 r (by omega)), hM.mf b⟩
theorem out_ne {x : Int32} {n k : Nat} (h : x.toInt < 0 ∨ (n : Int) ≤ x.toInt) (hk : k < n) (hn : n < 2 ^ 31) : ¬ x = nI k := by
  intro e
  rw [e, nI_toInt (by omega)] at h
  omega
theorem in_k {k : Nat} {lo hi : Int64} {b c : Nat} (hk : k < 2 ^ 31) (hl : lo.toInt = (b : Int)) (hh : hi.toInt = (c : Int)) (h1 : b ≤ k) (h2 : k ≤ c) (I : Mem) : f_X9_in (nI k).toInt64 lo hi I = some (1, I) := by
  rw [f_in32 _ hl hh, nI_toInt hk, if_pos (by omega)]
theorem in_no {x : Int32} {lo hi : Int64} {b c : Int} (hl : lo.toInt = b) (hh : hi.toInt = c) (h : x.toInt < b ∨ c < x.toInt) (I : Mem) : f_X9_in x.toInt64 lo hi I = some (0, I) := by
  rw [f_in32 _ hl hh, if_neg (by omega)]
theorem to64 {n : Nat} (h : n < 2 ^ 31) : (nI n).toInt64.toInt = (n : Int) := by rw [Int32.toInt_toInt64, nI_toInt h]
theorem neg_or {x : Int32} {n : Nat} (h : x.toInt < 0 ∨ (n : Int) ≤ x.toInt) (hn : n < 2 ^ 31) : x < 0 ∨ (¬ x < 0 ∧ nI n ≤ x) := by
  by_cases hx : x.toInt < 0
  · exact Or.inl (lt_T.mpr hx)
  · refine Or.inr ⟨fun q => hx (lt_T.mp q), le_T.mpr ?_⟩
    rw [nI_toInt hn]
    omega
theorem s_sch8 {I : Mem} {τ : Td} (hW : WF τ) (hT : TX I 3 τ) {k : Nat} (hk : k < τ 3) : f_X8_isScheme (nI k) I = some (1, I) := by
  have hS := hW.2.2.2.1.2
  unfold f_X8_isScheme
  rw [if_neg (nI_pos (by omega)), hT.1, if_neg (nI_ge hk (by omega))]
theorem s_sch8_no {I : Mem} {τ : Td} (hW : WF τ) (hT : TX I 3 τ) {x : Int32} (hx : x.toInt < 0 ∨ (τ 3 : Int) ≤ x.toInt) : f_X8_isScheme x I = some (0, I) := by
  have hS := hW.2.2.2.1.2
  unfold f_X8_isScheme
  rcases neg_or hx (by omega) with h | ⟨h1, h2⟩
  · rw [if_pos h]
  · rw [if_neg h1, hT.1, if_pos h2]
theorem s_sch9 {I : Mem} {τ : Td} (hW : WF τ) (hT : TM (I 91) τ) {k : Nat} (hk : k < τ 3) : f_X9_isScheme (nI k) I = some (1, I) := by
  obtain ⟨hS1, hS⟩ := hW.2.2.2.1
  unfold f_X9_isScheme
  rw [hT.1 3 (by decide), show nI (τ 3) - 1 = nI (τ 3 - 1) from nI_sub (b := 1) hS1 (by omega), in_k (b := 0) (c := τ 3 - 1) (by omega) rfl (to64 (by omega)) (Nat.zero_le _) (by omega), bI_some, ck_t (by decide)]
theorem s_sch9_no {I : Mem} {τ : Td} (hW : WF τ) (hT : TM (I 91) τ) {x : Int32} (hx : x.toInt < 0 ∨ (τ 3 : Int) ≤ x.toInt) : f_X9_isScheme x I = some (0, I) := by
  obtain ⟨hS1, hS⟩ := hW.2.2.2.1
  unfold f_X9_isScheme
  rw [hT.1 3 (by decide), show nI (τ 3) - 1 = nI (τ 3 - 1) from nI_sub (b := 1) hS1 (by omega), in_no (b := 0) (c := (τ 3 - 1 : Nat)) rfl (to64 (by omega)) (by omega), bI_some, ck_t (by decide)]
theorem MF.plan {I J : Mem} (a4 : ∀ r, r ≠ 89 → r ≠ 101 → r ≠ 102 → J r = I r) (a5 : ∀ j, j ≠ 20 → J 89 j = I 89 j) : MF I J := ⟨fun r hr => a4 r (by omega) (by omega) (by omega), a5 0 (by decide), a5 4 (by decide), a4 90 (by decide) (by decide) (by decide), a4 91 (by decide) (by decide) (by decide), a4 92 (by decide) (by decide) (by decide)⟩
theorem MF.lays {I J : Mem} (a : ∀ r, r ≠ 89 → r ≠ 94 → r ≠ 95 → r ≠ 96 → r ≠ 97 → r ≠ 98 → r ≠ 99 → J r = I r) (b : ∀ j, j ≠ 8 → j ≠ 11 → j ≠ 12 → j ≠ 16 → J 89 j = I 89 j) : MF I J := ⟨fun r hr => a r (by omega) (by omega) (by omega) (by omega) (by omega) (by omega) (by omega), b 0 (by decide) (by decide) (by decide) (by decide), b 4 (by decide) (by decide) (by decide) (by decide), a 90 (by decide) (by decide) (by decide) (by decide) (by decide) (by decide) (by decide), a 91 (by decide) (by decide) (by decide) (by decide) (by decide) (by decide) (by decide), a 92 (by decide) (by decide) (by decide) (by decide) (by decide) (by decide) (by decide)⟩
theorem PLX.bound {I : Mem} {τ : Td} (hW : WF τ) : ∀ u c, u < 108 → lt' τ 0 u = some c → c < 2 ^ 30 := fun u c hu hc => by have := ls_le (okz_of hW) (Nat.zero_le _) hc; omega
/-- plan(what) -/
theorem cost_sum {τ : Td} (hW : WF τ) {c : Nat} (hc : lt' τ 0 (un τ (τ 0)) = some c) : c = pK τ 0 * τ 4 + pK τ 1 * τ 5 + pK τ 2 * τ 6 + pK τ 3 * τ 7 := by
  have hN := hW.1.2
  have hS := hW.2.2.2.1.2
  have key : ∀ k, k ≤ τ 3 → ∃ c', lt' τ k (rsT τ (τ 0) k) = some c' ∧ c = c' + (if 0 < k then pK τ 0 * τ 4 else 0) + (if 1 < k then pK τ 1 * τ 5 else 0) + (if 2 < k then pK τ 2 * τ 6 else 0) + (if 3 < k then pK τ 3 * τ 7 else 0) := by
    intro k
    induction k with
    | zero => intro _; exact ⟨c, hc, rfl⟩
    | succ k ih =>
      intro hk
      obtain ⟨c1, h1, h2⟩ := ih (by omega)
      obtain ⟨-, a, b, e1, e2, e3⟩ := plF_spec hW hN (show k < τ 3 by omega)
      rw [h1] at e1
      have e4 : c1 = a := Option.some.inj e1
      refine ⟨b, e2, ?_⟩
      have e5 : b + pK τ k * pt τ k = c1 := by rw [e4]; exact e3
      rw [h2, ← e5]
      have hk4 : k < 4 := by omega
      match k, hk4 with
      | 0, _ => simp; rfl
      | 1, _ => simp; show b + pK τ 1 * τ 5 + _ = _; omega
      | 2, _ => simp; show b + pK τ 2 * τ 6 + _ + _ = _; omega
      | 3, _ => simp; show b + pK τ 3 * τ 7 + _ + _ + _ = _; omega
  obtain ⟨c', h1, h2⟩ := key (τ 3) (Nat.le_refl _)
  rw [rsT_end hW hN] at h1
  have h3 : c' = 0 := by
    unfold lt' at h1
    rw [ls_S, if_pos rfl] at h1
    exact (Option.some.inj h1).symm
  have hz : ∀ k, τ 3 ≤ k → pK τ k = 0 := fun k hk => plF_ge hk
  rw [h2, h3]
  have g : ∀ k, ∀ p, (if k < τ 3 then pK τ k * p else 0) = pK τ k * p := by
    intro k p
    by_cases hk : k < τ 3
    · rw [if_pos hk]
    · rw [if_neg hk, hz k (by omega), Nat.zero_mul]
  rw [g, g, g, g]
  omega
theorem pK_le {τ : Td} (hW : WF τ) : ∀ k, k < 4 → pK τ k ≤ 100 := by
  have := tS_le hW
  unfold tS at this
  intro k hk
  match k, hk with
  | 0, _ => omega
  | 1, _ => omega
  | 2, _ => omega
  | 3, _ => omega
theorem s_plan24 {I : Mem} {τ : Td} (hW : WF τ) (h : PN I τ) (hp : ∀ k, k < τ 3 → I 91 (4 + k) = nI (τ (4 + k))) (K : Int32 → Int32 → Int32 → Mem → Option (Int32 × Mem)) (a b : Int32) : l_X9_plan_24 K fuel a b 0 0 I = K a b (nI (pK τ 0 * τ 4 + pK τ 1 * τ 5 + pK τ 2 * τ 6 + pK τ 3 * τ 7)) I := by
  have g : ∀ k, k < 4 → I 102 k * I 91 (4 + k) = nI (pK τ k * τ (4 + k)) := by
    intro k hk
    rw [h.2.1 k hk]
    by_cases hS : k < τ 3
    · rw [hp k hS, nI_mul]
    · rw [show pK τ k = 0 from plF_ge (by omega), Nat.zero_mul]
      exact Int32.zero_mul
  have key := iter_loop (fun f x (s : Int32) => l_X9_plan_24 K f a b s x I) (K a b (nI (pK τ 0 * τ 4 + pK τ 1 * τ 5 + pK τ 2 * τ 6 + pK τ 3 * τ 7)) I) 0 4 (fun i => nI ((if 0 < i then pK τ 0 * τ 4 else 0) + (if 1 < i then pK τ 1 * τ 5 else 0) + (if 2 < i then pK τ 2 * τ 6 else 0) + (if 3 < i then pK τ 3 * τ 7 else 0))) (by decide) ?_ ?_ fuel (by rw [fuel_v]; decide)
  · exact key
  · intro f i _ hi
    show l_X9_plan_24 K (f + 1) a b _ (nI i) I = l_X9_plan_24 K f a b _ (nI (i + 1)) I
    rw [u_X9_plan_24]
    unfold b_X9_plan_24
    rw [if_neg (show ¬ (4 : Int32) ≤ nI i from nI_ge hi (by decide)), ck_t (inb_n hi (by decide)), show (4 : Int32) + nI i = nI (4 + i) from nI_add 4 i, ck_t (inb_n (show 4 + i < 132 by omega) (by decide)), nI_tn (by omega), nI_tn (by omega), g i hi, nI_add, nI_1]
    match i, hi with
    | 0, _ => congr 2; simp
    | 1, _ => congr 2
    | 2, _ => congr 2
    | 3, _ => congr 2
  · intro f
    show l_X9_plan_24 K (f + 1) a b _ (nI 4) I = _
    rw [u_X9_plan_24]
    unfold b_X9_plan_24
    rw [if_pos (by decide)]
    rfl
theorem q_plan {I : Mem} {L : Nat} {x : Nat → Nat} {τ : Td} {d : Nat} {us : Nat → Td} (hC : IC I L x τ d us) (hM : IM I L x τ d us) (w : Int32) : Sm (f_X8_plan w) (f_X9_plan w) I := by
  have hW := hC.wf
  obtain ⟨J, j1, j2, j3, j4⟩ := s_sheetMany hW hM.told
  have hMF := MF.plan j3 j4
  have hB := hC.book.1
  have hA2 := hA_T hW
  have hpp : pP τ = 2 * hA τ (tS τ) := by unfold pP; omega
  have hNP := pP_ge hW
  have hPl := pP_le hW
  rcases arg_cases w 4 with ⟨k, hk, -, rfl⟩ | hw
  · have h9 : ∀ v, (if nI k = 0 then some (nI (tS τ), J) else if nI k = (1 : Int32) then some (nI (pP τ - τ 0), J) else if nI k = (2 : Int32) then some (nI (pK τ 0 * τ 4 + pK τ 1 * τ 5 + pK τ 2 * τ 6 + pK τ 3 * τ 7), J) else some (nI (pP τ), J)) = some (v, J) → ∃ J, f_X9_plan (nI k) I = some (v, J) ∧ MF I J := by
      intro v hv
      refine ⟨J, ?_, hMF⟩
      unfold f_X9_plan
      rw [in_k (b := 0) (c := 3) (by omega) rfl rfl (Nat.zero_le _) (by omega), bI_some, if_neg (by decide), j1, bI_some, s_plan24 hW j2 (fun k hk => (j2.2.2.2.1 k hk).1)]
      try dsimp only
      rw [j2.1, j2.2.2.1 0 (by decide), nI_sub hNP (by omega)]
      exact hv
    obtain ⟨-, -, ⟨c, hc⟩, -⟩ := un_spec hW hW.1.2
    match k, hk with
    | 0, _ =>
      refine Sm_q hC hM (v := nI (tS τ)) ?_ (h9 _ rfl)
      unfold f_X8_plan
      rw [if_pos (show nI 0 = (0 : Int32) from rfl), hB.1]
    | 1, _ =>
      refine Sm_q hC hM (v := nI (pP τ - τ 0)) ?_ (h9 _ rfl)
      unfold f_X8_plan
      rw [if_neg (show ¬ nI 1 = (0 : Int32) by decide), if_pos (show nI 1 = (1 : Int32) from rfl), hB.2.1, ← hpp, show I 4 0 = nI (τ 0) from hC.told.2.1 0 (by decide), nI_sub hNP (by omega)]
    | 2, _ =>
      refine Sm_q hC hM (v := nI (pK τ 0 * τ 4 + pK τ 1 * τ 5 + pK τ 2 * τ 6 + pK τ 3 * τ 7)) ?_ (h9 _ rfl)
      unfold f_X8_plan
      rw [if_neg (show ¬ nI 2 = (0 : Int32) by decide), if_neg (show ¬ nI 2 = (1 : Int32) by decide), if_pos (show nI 2 = (2 : Int32) from rfl), hC.plan.2.2, hc, cost_sum hW hc]
      rfl
    | 3, _ =>
      refine Sm_q hC hM (v := nI (pP τ)) ?_ (h9 _ rfl)
      unfold f_X8_plan
      rw [if_neg (show ¬ nI 3 = (0 : Int32) by decide), if_neg (show ¬ nI 3 = (1 : Int32) by decide), if_neg (show ¬ nI 3 = (2 : Int32) by decide), if_pos (show nI 3 = (3 : Int32) from rfl), hB.2.1, ← hpp]
  · refine Sm_q hC hM (v := -1) ?_ ⟨I, ?_, MF.refl I⟩
    · unfold f_X8_plan
      rw [if_neg (show ¬ w = (0 : Int32) from out_ne (k := 0) hw (by decide) (by decide)), if_neg (show ¬ w = (1 : Int32) from out_ne (k := 1) hw (by decide) (by decide)), if_neg (show ¬ w = (2 : Int32) from out_ne (k := 2) hw (by decide) (by decide)), if_neg (show ¬ w = (3 : Int32) from out_ne (k := 3) hw (by decide) (by decide))]
    · unfold f_X9_plan
      rw [in_no (b := 0) (c := 3) rfl rfl (by omega), bI_some, if_pos rfl]
/-- blanks(n) -/
theorem q_blanks {I : Mem} {L : Nat} {x : Nat → Nat} {τ : Td} {d : Nat} {us : Nat → Td} (hC : IC I L x τ d us) (hM : IM I L x τ d us) (w : Int32) : Sm (f_X8_blanks w) (f_X9_blanks w) I := by
  have hW := hC.wf
  by_cases h1 : w.toInt < 1
  · refine Sm_q hC hM (v := -1) ?_ ⟨I, ?_, MF.refl I⟩
    · unfold f_X8_blanks
      rw [if_pos (show w < exv 0 0 from lt_T.mpr h1)]
    · unfold f_X9_blanks
      rw [in_no (b := 1) (c := 400) rfl rfl (by omega), bI_some, if_pos rfl]
  · rcases arg_cases w 401 with ⟨k, hk, -, rfl⟩ | hw
    · rw [nI_toInt (by omega)] at h1
      obtain ⟨J, j1, j2, j3, j4, j5⟩ := s_findPlan hW hM.told (show k ≤ 400 by omega)
      obtain ⟨u1, u2, -, -⟩ := un_spec hW (show k ≤ 400 by omega)
      refine Sm_q hC hM (v := nI (4 * un τ k - k)) ?_ ⟨J, ?_, MF.plan j4 j5⟩
      · unfold f_X8_blanks
        rw [if_neg (show ¬ nI k < exv 0 0 from nI_nlt (b := 1) (by omega) (by omega)), if_pos (show nI k ≤ exv 1 0 from nI_le (b := 400) (by omega) (by decide)), s_unitsFor (by omega) hC.plan.1 (PLX.bound (I := I) hW), bI_some, show nI (un τ k) * 4 = nI (un τ k * 4) from nI_mul _ 4, nI_sub (by omega) (by omega), Nat.mul_comm]
      · unfold f_X9_blanks
        rw [in_k (b := 1) (c := 400) (by omega) rfl rfl (by omega) (by omega), bI_some, if_neg (by decide), j1, bV_some, j2, nI_sub (by omega) (by omega)]
    · refine Sm_q hC hM (v := -1) ?_ ⟨I, ?_, MF.refl I⟩
      · unfold f_X8_blanks
        rw [if_neg (show ¬ w < exv 0 0 from fun q => h1 (lt_T.mp q)), if_neg (show ¬ w ≤ exv 1 0 from fun q => by
          have : w.toInt ≤ 400 := le_T.mp q
          omega)]
      · unfold f_X9_blanks
        rw [in_no (b := 1) (c := 400) rfl rfl (by omega), bI_some, if_pos rfl]
