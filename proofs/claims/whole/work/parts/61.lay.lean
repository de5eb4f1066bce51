/-! READING A TEXT: the reference's items and texts; fault() and lay() -/
theorem s_item9 {J : Mem} {L : Nat} {x : Nat → Nat} {ρ : Td} (hX : TXm J L x) (hW : WFr ρ) (hT : TMr (J 93) ρ) {a : Nat} (ha : a < L) (h6 : J 89 6 = nI (a + 1)) : ItO x L ρ a J (f_X9_item (nI (x a)) J) := by
  have h200 := hX.2.1
  have hxa := (hX.2.2 a ha).2
  have hne : ∀ c : Nat, c < 127 → x a ≠ c → ¬ nI (x a) = nI c := fun c hc h q => h ((nI_eq (by omega) (by omega)).mp q)
  by_cases k99 : x a = 99
  · have := i_num hX hW hT ha (i := 1) (by decide) (by rw [k99]; rfl) h6
    rw [k99]
    unfold f_X9_item
    rw [if_pos (show nI 99 = (99 : Int32) from rfl)]
    exact this.ck
  by_cases k107 : x a = 107
  · have := i_scheme hX hW hT ha k107 h6
    rw [k107]
    unfold f_X9_item
    rw [if_neg (show ¬ nI 107 = (99 : Int32) by decide), if_neg (show ¬ nI 107 = (100 : Int32) by decide), if_neg (show ¬ nI 107 = (101 : Int32) by decide), if_neg (show ¬ nI 107 = (102 : Int32) by decide), if_neg (show ¬ nI 107 = (103 : Int32) by decide), if_neg (show ¬ nI 107 = (104 : Int32) by decide), if_neg (show ¬ nI 107 = (105 : Int32) by decide), if_neg (show ¬ nI 107 = (106 : Int32) by decide), if_pos (show nI 107 = (107 : Int32) from rfl)]
    exact this.ck
  by_cases k109 : x a = 109
  · have := i_num hX hW hT ha (i := 2) (by decide) (by rw [k109]; rfl) h6
    rw [k109]
    unfold f_X9_item
    rw [if_neg (show ¬ nI 109 = (99 : Int32) by decide), if_neg (show ¬ nI 109 = (100 : Int32) by decide), if_neg (show ¬ nI 109 = (101 : Int32) by decide), if_neg (show ¬ nI 109 = (102 : Int32) by decide), if_neg (show ¬ nI 109 = (103 : Int32) by decide), if_neg (show ¬ nI 109 = (104 : Int32) by decide), if_neg (show ¬ nI 109 = (105 : Int32) by decide), if_neg (show ¬ nI 109 = (106 : Int32) by decide), if_neg (show ¬ nI 109 = (107 : Int32) by decide), if_neg (show ¬ nI 109 = (108 : Int32) by decide), if_pos (show nI 109 = (109 : Int32) from rfl)]
    exact this.ck
  by_cases k110 : x a = 110
  · have := i_num hX hW hT ha (i := 0) (by decide) (by rw [k110]; rfl) h6
    rw [k110]
    unfold f_X9_item
    rw [if_neg (show ¬ nI 110 = (99 : Int32) by decide), if_neg (show ¬ nI 110 = (100 : Int32) by decide), if_neg (show ¬ nI 110 = (101 : Int32) by decide), if_neg (show ¬ nI 110 = (102 : Int32) by decide), if_neg (show ¬ nI 110 = (103 : Int32) by decide), if_neg (show ¬ nI 110 = (104 : Int32) by decide), if_neg (show ¬ nI 110 = (105 : Int32) by decide), if_neg (show ¬ nI 110 = (106 : Int32) by decide), if_neg (show ¬ nI 110 = (107 : Int32) by decide), if_neg (show ¬ nI 110 = (108 : Int32) by decide), if_neg (show ¬ nI 110 = (109 : Int32) by decide), if_pos (show nI 110 = (110 : Int32) from rfl)]
    exact this.ck
  by_cases k112 : x a = 112
  · have := i_price hX hW hT ha k112 h6
    rw [k112]
    unfold f_X9_item
    rw [if_neg (show ¬ nI 112 = (99 : Int32) by decide), if_neg (show ¬ nI 112 = (100 : Int32) by decide), if_neg (show ¬ nI 112 = (101 : Int32) by decide), if_neg (show ¬ nI 112 = (102 : Int32) by decide), if_neg (show ¬ nI 112 = (103 : Int32) by decide), if_neg (show ¬ nI 112 = (104 : Int32) by decide), if_neg (show ¬ nI 112 = (105 : Int32) by decide), if_neg (show ¬ nI 112 = (106 : Int32) by decide), if_neg (show ¬ nI 112 = (107 : Int32) by decide), if_neg (show ¬ nI 112 = (108 : Int32) by decide), if_neg (show ¬ nI 112 = (109 : Int32) by decide), if_neg (show ¬ nI 112 = (110 : Int32) by decide), if_neg (show ¬ nI 112 = (111 : Int32) by decide), if_pos (show nI 112 = (112 : Int32) from rfl)]
    exact this
  have h1 : ¬ nI (x a) = (99 : Int32) := hne 99 (by decide) k99
  have h2 : ¬ nI (x a) = (107 : Int32) := hne 107 (by decide) k107
  have h3 : ¬ nI (x a) = (109 : Int32) := hne 109 (by decide) k109
  have h4 : ¬ nI (x a) = (110 : Int32) := hne 110 (by decide) k110
  have h5 : ¬ nI (x a) = (112 : Int32) := hne 112 (by decide) k112
  refine ItO.no (s := a + 1) (J' := J) ?_ (FR.refl J) h6 (by omega) (fun e ρ' h => ?_)
  · unfold f_X9_item
    simp only [if_neg h1, if_neg h2, if_neg h3, if_neg h4, if_neg h5, ite_self]
  · rcases h.2.2.2 with ⟨i', j1, j2, -⟩ | ⟨j1, -⟩ | ⟨j1, -⟩
    · have := kyN_3 j1
      omega
    · exact k112 j1
    · exact k107 j1
theorem s_fault61 {L : Nat} {x : Nat → Nat} : ∀ (f : Nat) (ρ : Td) (a g : Nat) (I : Mem), TXm I L x → WFr ρ → TMr (I 93) ρ → I 89 6 = nI a → a ≤ L → L - a < f → f ≤ g → ∃ I', l_X9_fault_61 (fun (z11 : Int32) I12 => some (z11, I12)) (fun I13 => some ((-4 : Int32), I13)) g I = some ((runV x L f ρ a).1, I') ∧ FR I I' ∧ ((runV x L f ρ a).1 = -4 → TMr (I' 93) (runV x L f ρ a).2) := by
  intro f
  induction f with
  | zero => intro ρ a g I _ _ _ _ _ h; omega
  | succ f ih =>
    intro ρ a g I hX hW hT h6 ha hf hg
    obtain ⟨g', rfl⟩ : ∃ g', g = g' + 1 := ⟨g - 1, by omega⟩
    have h200 := hX.2.1
    rw [u_X9_fault_61]
    unfold b_X9_fault_61
    rw [hX.1, h6]
    unfold runV
    by_cases hLa : L ≤ a
    · rw [if_pos (nI_le hLa (by omega)), if_pos hLa]
      exact ⟨I, rfl, FR.refl I, fun _ => hT⟩
    rw [if_neg (nI_ge (by omega) (by omega)), if_neg hLa, ck_t (inb_n (show a < 200 by omega) (by decide)), nI_1, nI_tn (by omega), stm_row (show 90 ≠ 89 by decide), (hX.2.2 a (by omega)).1]
    have hX1 : TXm (stm I 89 6 (nI (a + 1))) L x := hX.s6 _
    obtain ⟨r, J', s, r1, r2, r3, r4, r5, r6, r7⟩ := s_item9 hX1 hW (by rw [stm_row (by decide)]; exact hT) (a := a) (by omega) (stm_at _ _ _ _)
    rw [r1, bI_some]
    have hX2 := r2.tx hX1
    have hFR : FR I J' := (FR.s6 _ _).trans r2
    have hbt := bt_lt hX2 s
    by_cases hit : ∃ p : Nat × Td, Item x L ρ a p.1 p.2
    · rw [dif_pos hit]
      have hI := hit.choose_spec
      generalize hit.choose = p at hI
      obtain ⟨e, ρ'⟩ := p
      dsimp only at hI ⊢
      obtain ⟨c1, c2, c3⟩ := r6 e ρ' hI
      have h1 := hI.1
      have h2 := hI.2.1
      subst c1
      subst c2
      rw [if10, r3, s_bt hX2 r4, bI_some, bt_in h2, hI.2.2.1, if_pos (show nI 59 = (59 : Int32) from rfl), r3, nI_1]
      obtain ⟨I', d1, d2, d3⟩ := ih ρ' (s + 1) g' (stm J' 89 6 (nI (s + 1))) (hX2.s6 _) (hI.wf hW) (by rw [stm_row (by decide)]; exact c3) (stm_at _ _ _ _) (by omega) (by omega) (by omega)
      exact ⟨I', d1, hFR.trans ((FR.s6 _ _).trans d2), d3⟩
    · rw [dif_neg hit]
      have hne : ¬ nI a = (-4 : Int32) := fun q => by
        have := congrArg Int32.toInt q
        rw [nI_toInt (by omega), show (-4 : Int32).toInt = -4 by decide] at this
        omega
      refine ⟨J', ?_, hFR, fun q => absurd q hne⟩
      rcases r5 with e | e
      · rw [e, if00]
      · subst e
        rw [if10, r3, s_bt hX2 r4, bI_some, if_neg (show ¬ nI (bt x L s) = (59 : Int32) from fun q => ?_)]
        have h59 := (nI_eq (b := 59) (by omega) (by decide)).mp q
        obtain ⟨ρ', hρ⟩ := r7 rfl h59
        exact hit ⟨(s, ρ'), hρ⟩
def v0 (i : Nat) : Int32 := if 4 ≤ i ∧ i ≤ 7 then 10 else 0
theorem s_read9 {I : Mem} {L : Nat} {x : Nat → Nat} (hX : TXm I L x) : ∃ I', f_X9_fault I = some ((runV x L (L + 1) rho0 0).1, I') ∧ FR I I' ∧ ((runV x L (L + 1) rho0 0).1 = -4 → TMr (I' 93) (runV x L (L + 1) rho0 0).2) := by
  have h200 := hX.2.1
  have key := fill_loop (fun f y M => l_X9_fault_2 (fun I5 => l_X9_fault_61 (fun (z11 : Int32) I12 => some (z11, I12)) (fun I13 => some ((-4 : Int32), I13)) fuel (stm (stm (stm I5 93 0 (16 : Int32)) 93 1 (2 : Int32)) 89 6 (0 : Int32))) f y M) (fun I5 => l_X9_fault_61 (fun (z11 : Int32) I12 => some (z11, I12)) (fun I13 => some ((-4 : Int32), I13)) fuel (stm (stm (stm I5 93 0 (16 : Int32)) 93 1 (2 : Int32)) 89 6 (0 : Int32))) 93 132 v0 I ?_ ?_ fuel (by rw [fuel_v]; decide)
  · have hfr : FR I (stm (stm (stm (fil I 93 v0 132) 93 0 (16 : Int32)) 93 1 (2 : Int32)) 89 6 (0 : Int32)) := by
      refine FR.trans ⟨fun r _ b => fil_row b, fun j _ => by rw [fil_row (by decide)]⟩ ((FR.s93 _ _ _).trans ((FR.s93 _ _ _).trans (FR.s6 _ _)))
    have hrow : ∀ j, j < 132 → (stm (stm (stm (fil I 93 v0 132) 93 0 (16 : Int32)) 93 1 (2 : Int32)) 89 6 (0 : Int32)) 93 j = if j = 0 then 16 else if j = 1 then 2 else v0 j := by
      intro j hj
      rw [stm_row (by decide)]
      by_cases e1 : j = 1
      · rw [e1, stm_at]; rfl
      · rw [stm_ne e1]
        by_cases e0 : j = 0
        · rw [e0, stm_at]; rfl
        · rw [stm_ne e0, fil_lt hj, if_neg e0, if_neg e1]
    obtain ⟨I', b1, b2, b3⟩ := s_fault61 (L := L) (x := x) (L + 1) rho0 0 fuel _ (hfr.tx hX) rho0_wf (by
      refine ⟨fun i hi => ?_, fun k hk => ?_, fun k hk => absurd hk (Nat.not_lt_zero k), fun j hj => ?_⟩
      · rw [hrow i (by omega)]
        match i, hi with
        | 0, _ => rfl
        | 1, _ => rfl
        | 2, _ => rfl
        | 3, _ => rfl
      · rw [hrow (4 + k) (by omega), if_neg (by omega), if_neg (by omega), if_neg (show ¬ k < rho0 3 from Nat.not_lt_zero k)]
        unfold v0
        rw [if_pos (by omega)]
        rfl
      · rw [hrow (28 + j) (by omega), if_neg (by omega), if_neg (by omega)]
        unfold v0
        rw [if_neg (by omega)]) (stm_at _ _ _ _) (Nat.zero_le _) (by omega) (by rw [fuel_v]; omega)
    exact ⟨I', key.trans b1, hfr.trans b2, b3⟩
  · intro f i hi
    show l_X9_fault_2 _ (f + 1) (nI i) _ = l_X9_fault_2 _ f (nI (i + 1)) _
    rw [u_X9_fault_2]
    unfold b_X9_fault_2
    rw [if_neg (show ¬ (132 : Int32) ≤ nI i from nI_ge hi (by decide))]
    by_cases h : 4 ≤ i ∧ i ≤ 7
    · rw [in_k (b := 4) (c := 7) (by omega) rfl rfl h.1 h.2, bI_some, if10, ck_t (inb_n hi (by decide)), nI_tn (by omega), nI_1, show v0 i = 10 from if_pos h]
    · rw [in_no (b := 4) (c := 7) rfl rfl (by rw [nI_toInt (by omega)]; omega), bI_some, if00, ck_t (inb_n hi (by decide)), nI_tn (by omega), nI_1, show v0 i = 0 from if_neg h]
  · intro f
    show l_X9_fault_2 _ (f + 1) (nI 132) _ = _
    rw [u_X9_fault_2]
    unfold b_X9_fault_2
    rw [if_pos (by decide)]
theorem FR.mf {I J : Mem} (h : FR I J) : MF I J := ⟨fun r hr => h.1 r (by omega) (by omega), h.2 0 (by decide), h.2 4 (by decide), h.1 90 (by decide) (by decide), h.1 91 (by decide) (by decide), h.1 92 (by decide) (by decide)⟩
/-- fault() -/
theorem q_fault {I : Mem} {L : Nat} {x : Nat → Nat} {τ : Td} {d : Nat} {us : Nat → Td} (hC : IC I L x τ d us) (hM : IM I L x τ d us) : Sm f_X8_fault f_X9_fault I := by
  obtain ⟨I1, a1, a2, -⟩ := s_read8 (I := I) (L := L) (x := x) hC.1
  have hC1 : IC I1 L x τ d us := hC.same (fun r hr => a2 r (by omega))
  have hM1 : IM I1 L x τ d us := hM.same (by rw [a2 89 (by omega)]) (by rw [a2 89 (by omega)]) (a2 90 (by omega)) (a2 91 (by omega)) (a2 92 (by omega))
  obtain ⟨J, b1, b2, -⟩ := s_read9 (I := I1) (IM.tx9 hC1 hM1)
  refine ⟨_, I1, J, ?_, b1, L, x, τ, d, us, hC1.same (fun r hr => b2.mf.1 r (by omega)), hM1.mf b2.mf⟩
  unfold f_X8_fault
  rw [a1, bI_some]
theorem s_lay23 {K : Mem → Option (Int32 × Mem)} (I : Mem) : l_X9_lay_23 K fuel (0 : Int32) I = K (fil I 91 (I 93) 132) := by
  refine fill_loop (fun f y M => l_X9_lay_23 K f y M) K 91 132 (I 93) I ?_ ?_ fuel (by rw [fuel_v]; decide)
  · intro f i hi
    show l_X9_lay_23 _ (f + 1) (nI i) _ = l_X9_lay_23 _ f (nI (i + 1)) _
    rw [u_X9_lay_23]
    unfold b_X9_lay_23
    rw [if_neg (show ¬ (132 : Int32) ≤ nI i from nI_ge hi (by decide)), ck_t (inb_n hi (by decide)), ck_t (inb_n hi (by decide)), nI_tn (by omega), nI_1, fil_row (by decide)]
  · intro f
    show l_X9_lay_23 _ (f + 1) (nI 132) _ = _
    rw [u_X9_lay_23]
    unfold b_X9_lay_23
    rw [if_pos (by decide)]
/-- what the class does with a text that it lays -/
theorem s_layText {I : Mem} {L : Nat} {x : Nat → Nat} (hX : TXT I L x) {κ : Nat → Nat} (hK : KK I κ) : (¬ ((runV x L (L + 1) rho0 0).1 = -4 ∧ 0 < (runV x L (L + 1) rho0 0).2 3) → ∃ I', f_X8_layText I = some (-2, I') ∧ ∀ r, r < 9 ∨ 15 ≤ r → I' r = I r) ∧ ((runV x L (L + 1) rho0 0).1 = -4 ∧ 0 < (runV x L (L + 1) rho0 0).2 3 → ∃ I', f_X8_layText I = some (nI ((runV x L (L + 1) rho0 0).2 3), I') ∧ IC I' L x (runV x L (L + 1) rho0 0).2 0 (fun _ => (runV x L (L + 1) rho0 0).2) ∧ WFr (runV x L (L + 1) rho0 0).2 ∧ ∀ r, 89 ≤ r → I' r = I r) := by
  obtain ⟨I1, a1, a2, a3⟩ := s_read8 hX
  generalize runV x L (L + 1) rho0 0 = V at a1 a3
  obtain ⟨v, ρ⟩ := V
  dsimp only at a1 a3 ⊢
  constructor
  · intro h
    refine ⟨I1, ?_, a2⟩
    unfold f_X8_layText
    rw [a1, bI_some]
    by_cases hv : v = -4
    · obtain ⟨hT, hW⟩ := a3 hv
      rw [if_pos hv, hT.1, if_pos (show nI (ρ 3) = 0 by rw [show ρ 3 = 0 from Nat.eq_zero_of_not_pos (fun q => h ⟨hv, q⟩)]; rfl)]
    · rw [if_neg hv]
  · rintro ⟨hv, h3⟩
    obtain ⟨hT, hW⟩ := a3 hv
    have hS := hW.2.2.2.1
    have hWF : WF ρ := ⟨hW.1, hW.2.1, hW.2.2.1, ⟨h3, hS⟩, hW.2.2.2.2.1, fun j hj => by rw [hW.2.2.2.2.2 j hj]; decide⟩
    have hr2 : ∀ r, r < 3 ∨ (15 < r) → (stm (cpT I1 3 9) 15 1 (0 : Int32)) r = I r := fun r hr => by
      rw [stm_row (by omega), cpT_row (by omega), a2 r (by omega)]
    obtain ⟨I2, b1, b2, b3⟩ := IC.mk' (I := stm (cpT I1 3 9) 15 1 (0 : Int32)) (L := L) (x := x) (τ := ρ) (d := 0) (us := fun _ => ρ) (κ := κ) (by rw [hr2 1 (by omega), hr2 2 (by omega)]; exact hX) hWF ((cpT_TX hS hT).rows (fun r _ _ => stm_row (by omega))) ⟨stm_at _ _ _ _, by decide, by
      unfold KK
      rw [hr2 16 (by omega)]
      exact hK, fun i hi => absurd hi (Nat.not_lt_zero i)⟩ (fun i hi => absurd hi (Nat.not_lt_zero i))
    refine ⟨I2, ?_, b2, hW, fun r hr => by rw [b3 r (by omega), hr2 r (by omega)]⟩
    unfold f_X8_layText
    rw [a1, bI_some, if_pos hv, hT.1, if_neg (nI_ne0 h3 (by omega)), s_copyFrom_3_9, bV_some, b1, bV_some, b2.told.1]
/-- lay() -/
theorem q_lay {I : Mem} {L : Nat} {x : Nat → Nat} {τ : Td} {d : Nat} {us : Nat → Td} (hC : IC I L x τ d us) (hM : IM I L x τ d us) : Sm f_X8_lay f_X9_lay I := by
  obtain ⟨hX, -, -, ⟨κ, hH⟩, -⟩ := id hC
  obtain ⟨p1, p2⟩ := s_layText (I := I) (L := L) (x := x) hX hH.2.2.1
  by_cases hy : (runV x L (L + 1) rho0 0).1 = -4 ∧ 0 < (runV x L (L + 1) rho0 0).2 3
  · obtain ⟨I1, a1, a2, a3, a4⟩ := p2 hy
    have hM1 : IM I1 L x τ d us := hM.same (by rw [a4 89 (by omega)]) (by rw [a4 89 (by omega)]) (a4 90 (by omega)) (a4 91 (by omega)) (a4 92 (by omega))
    obtain ⟨J, b1, b2, b3⟩ := s_read9 (I := I1) (IM.tx9 a2 hM1)
    generalize runV x L (L + 1) rho0 0 = V at hy a1 a2 a3 b1 b3
    obtain ⟨v, ρ⟩ := V
    dsimp only at hy a1 a2 a3 b1 b3
    have hTM := b3 hy.1
    have hS := a3.2.2.2.1
    refine ⟨nI (ρ 3), I1, stm (fil J 91 (J 93) 132) 89 4 (0 : Int32), ?_, ?_, L, x, ρ, 0, fun _ => ρ, a2.same (fun r hr => by rw [stm_row (by omega), fil_row (by omega), b2.mf.1 r (by omega)]), ?_, ?_, ?_, ?_⟩
    · unfold f_X8_lay
      rw [a1, bI_some]
    · unfold f_X9_lay
      rw [b1, bI_some, if_pos hy.1, hTM.1 3 (by decide), if_neg (nI_ne0 hy.2 (by omega)), s_lay23]
      try dsimp only
      rw [stm_row (by decide), fil_lt (by decide), hTM.1 3 (by decide)]
    · rw [stm_ne (by decide), fil_row (by decide), b2.2 0 (by decide)]; exact hM1.1
    · rw [stm_row (by decide), fil_row (by decide), b2.1 90 (by decide) (by decide)]; exact hM1.2.1
    · refine TM.same hS (fun k hk => (a3.2.2.2.2.1 k hk).2.2.1) (hTM.tm a3) (fun i hi => ?_)
      rw [stm_row (by decide), fil_lt hi]
    · exact ⟨stm_at _ _ _ _, by decide, fun k hk => absurd hk (Nat.not_lt_zero k)⟩
  · obtain ⟨I1, a1, a2⟩ := p1 hy
    have hC1 : IC I1 L x τ d us := hC.same (fun r hr => a2 r (by omega))
    have hM1 : IM I1 L x τ d us := hM.same (by rw [a2 89 (by omega)]) (by rw [a2 89 (by omega)]) (a2 90 (by omega)) (a2 91 (by omega)) (a2 92 (by omega))
    obtain ⟨J, b1, b2, b3⟩ := s_read9 (I := I1) (IM.tx9 hC1 hM1)
    generalize runV x L (L + 1) rho0 0 = V at hy b1 b3
    obtain ⟨v, ρ⟩ := V
    dsimp only at hy b1 b3
    refine ⟨-2, I1, J, ?_, ?_, L, x, τ, d, us, hC1.same (fun r hr => b2.mf.1 r (by omega)), hM1.mf b2.mf⟩
    · unfold f_X8_lay
      rw [a1, bI_some]
    · unfold f_X9_lay
      rw [b1, bI_some]
      by_cases hv : v = -4
      · rw [if_pos hv, (b3 hv).1 3 (by decide), if_pos (show nI (ρ 3) = 0 by rw [show ρ 3 = 0 from Nat.eq_zero_of_not_pos (fun q => hy ⟨hv, q⟩)]; rfl)]
      · rw [if_neg hv]
