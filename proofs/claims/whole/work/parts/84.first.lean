/-! AT FIRST: the text that the class lays in its constructor, and what holds behind both constructors -/
def tx0 : List Nat := [107, 108, 59, 107, 114, 98, 108, 59, 107, 116, 114, 59, 110, 51, 48, 59, 112, 49, 44, 49, 52, 59]
def x0 (i : Nat) : Nat := tx0.getD i 0
def tau0 : Td := rdT (rdT (adT (adT (adT rho0 1 1) 3 33) 2 14) 0 30) 5 14
theorem kyN_inj {i j : Nat} (hi : i < 3) (hj : j < 3) (h : kyN i = kyN j) : i = j := by
  match i, j, hi, hj with
  | 0, 0, _, _ => rfl
  | 0, 1, _, _ => exact absurd h (by decide)
  | 0, 2, _, _ => exact absurd h (by decide)
  | 1, 0, _, _ => exact absurd h (by decide)
  | 1, 1, _, _ => rfl
  | 1, 2, _, _ => exact absurd h (by decide)
  | 2, 0, _, _ => exact absurd h (by decide)
  | 2, 1, _, _ => exact absurd h (by decide)
  | 2, 2, _, _ => rfl
theorem Item.one {x : Nat → Nat} {L : Nat} {ρ ρ1 ρ2 : Td} {a e1 e2 : Nat} (h1 : Item x L ρ a e1 ρ1) (h2 : Item x L ρ a e2 ρ2) : e1 = e2 ∧ ρ1 = ρ2 := by
  have he : e1 = e2 := by
    rcases Nat.lt_trichotomy e1 e2 with h | h | h
    · exact absurd h1.2.2.1 (h2.no59 e1 (Nat.le_of_lt h1.1) h)
    · exact h
    · exact absurd h2.2.2.1 (h1.no59 e2 (Nat.le_of_lt h2.1) h)
  subst he
  refine ⟨rfl, ?_⟩
  obtain ⟨-, -, -, c1⟩ := h1
  obtain ⟨-, -, -, c2⟩ := h2
  have hk : ∀ {i : Nat}, i < 3 → kyN i ≠ 112 ∧ kyN i ≠ 107 := fun {i} hi => by
    have := kyN_3 hi
    omega
  rcases c1 with ⟨i, i1, i2, -, -, -, i6⟩ | ⟨p1, m, m1, m2, m3, m4, -, -, m7⟩ | ⟨s1, -, -, s4⟩
  · rcases c2 with ⟨j, j1, j2, -, -, -, j6⟩ | ⟨p1', -⟩ | ⟨s1', -⟩
    · have hij : i = j := kyN_inj i1 j1 (by rw [← i2, ← j2])
      rw [i6, j6, hij]
    · exact absurd (i2.symm.trans p1') (hk i1).1
    · exact absurd (i2.symm.trans s1') (hk i1).2
  · rcases c2 with ⟨j, j1, j2, -⟩ | ⟨-, m', m1', m2', m3', m4', -, -, m7'⟩ | ⟨s1', -⟩
    · exact absurd (j2.symm.trans p1) (hk j1).1
    · have hm : m = m' := by
        rcases Nat.lt_trichotomy m m' with h | h | h
        · have := m3'.2.2 m (Nat.le_of_lt m3.1) h
          rw [m2] at this
          unfold dig at this
          omega
        · exact h
        · have := m3.2.2 m' (Nat.le_of_lt m3'.1) h
          rw [m2'] at this
          unfold dig at this
          omega
      rw [m7, m7', hm]
    · rw [p1] at s1'
      omega
  · rcases c2 with ⟨j, j1, j2, -⟩ | ⟨p1', -⟩ | ⟨-, -, -, s4'⟩
    · exact absurd (j2.symm.trans s1) (hk j1).2
    · rw [s1] at p1'
      omega
    · rw [s4, s4']
theorem runV_s {x : Nat → Nat} {L f : Nat} {ρ ρ' : Td} {a e : Nat} (h : Item x L ρ a e ρ') : runV x L (f + 1) ρ a = runV x L f ρ' (e + 1) := by
  have hit : ∃ p : Nat × Td, Item x L ρ a p.1 p.2 := ⟨(e, ρ'), h⟩
  have hla : ¬ L ≤ a := by
    have := h.1
    have := h.2.1
    omega
  rw [runV, if_neg hla, dif_pos hit]
  obtain ⟨h1, h2⟩ := Item.one hit.choose_spec h
  rw [h1, h2]
theorem fo0 {b e : Nat} (h1 : b < e) (h2 : e - b ≤ 4) (h3 : ∀ i, i < e → b ≤ i → (x0 i = 98 ∨ x0 i = 108 ∨ x0 i = 114 ∨ x0 i = 116)) (h4 : x0 (e - 1) = 108 ∨ x0 (e - 1) = 114) : fOk x0 b e := ⟨h1, h2, fun i q r => h3 i r q, h4⟩
theorem no0 {b e : Nat} (h1 : b < e) (h2 : e - b ≤ 3) (h3 : ∀ i, i < e → b ≤ i → (48 ≤ x0 i ∧ x0 i ≤ 57)) : nOk x0 b e := ⟨h1, h2, fun i q r => h3 i r q⟩
theorem it1 : Item x0 22 rho0 0 2 (adT rho0 1 1) := ⟨by decide, by decide, by decide +kernel, Or.inr (Or.inr ⟨by decide +kernel, fo0 (by decide) (by decide) (by decide +kernel) (by decide +kernel), by decide +kernel, by rw [show cdN x0 (0 + 1) (2 - (0 + 1)) = 1 by decide +kernel]⟩)⟩
theorem it2 : Item x0 22 (adT rho0 1 1) 3 7 (adT (adT rho0 1 1) 3 33) := ⟨by decide, by decide, by decide +kernel, Or.inr (Or.inr ⟨by decide +kernel, fo0 (by decide) (by decide) (by decide +kernel) (by decide +kernel), by decide +kernel, by rw [show cdN x0 (3 + 1) (7 - (3 + 1)) = 33 by decide +kernel]⟩)⟩
theorem it3 : Item x0 22 (adT (adT rho0 1 1) 3 33) 8 11 (adT (adT (adT rho0 1 1) 3 33) 2 14) := ⟨by decide, by decide, by decide +kernel, Or.inr (Or.inr ⟨by decide +kernel, fo0 (by decide) (by decide) (by decide +kernel) (by decide +kernel), by decide +kernel, by rw [show cdN x0 (8 + 1) (11 - (8 + 1)) = 14 by decide +kernel]⟩)⟩
theorem it4 : Item x0 22 (adT (adT (adT rho0 1 1) 3 33) 2 14) 12 15 (rdT (adT (adT (adT rho0 1 1) 3 33) 2 14) 0 30) := ⟨by decide, by decide, by decide +kernel, Or.inl ⟨0, by decide, by decide +kernel, no0 (by decide) (by decide) (by decide +kernel), by decide +kernel, by decide +kernel, by rw [show vl x0 (12 + 1) (15 - (12 + 1)) = 30 by decide +kernel]⟩⟩
theorem it5 : Item x0 22 (rdT (adT (adT (adT rho0 1 1) 3 33) 2 14) 0 30) 16 21 tau0 := ⟨by decide, by decide, by decide +kernel, Or.inr (Or.inl ⟨by decide +kernel, 18, by decide, by decide +kernel, no0 (by decide) (by decide) (by decide +kernel), no0 (by decide) (by decide) (by decide +kernel), by decide +kernel, by decide +kernel, by rw [show vl x0 (16 + 1) (18 - (16 + 1)) = 1 by decide +kernel, show vl x0 (18 + 1) (21 - (18 + 1)) = 14 by decide +kernel]; rfl⟩)⟩
theorem run0 : runV x0 22 (22 + 1) rho0 0 = (-4, tau0) := by
  rw [runV_s it1, runV_s it2, runV_s it3, runV_s it4, runV_s it5, runV, if_pos (by decide)]
/-- text.append() of each letter from i on -/
def f_apk (K : Mem → Option Mem) : Nat → Nat → Mem → Option Mem
  | 0, _, I => K I
  | n + 1, i, I => bV (f_X6_append (sch 2 (nI i)) I) fun I1 => f_apk K n (i + 1) I1
def f_fin (I : Mem) : Option Mem := bI (f_X8_layText I) fun _ I2 => some (stm I2 1 1 (0 : Int32))
def f_init (I : Mem) : Option Mem := f_apk f_fin 22 0 I
theorem chT0 : ∀ i, i < 22 → vp_nar .char (sch 2 (nI i)) = nI (x0 i) ∧ 32 ≤ x0 i ∧ x0 i ≤ 126 := by decide +kernel
def AP (I0 : Mem) (i : Nat) (I : Mem) : Prop := I 1 1 = nI i ∧ (∀ j, j < i → I 2 j = nI (x0 j)) ∧ ∀ r, r ≠ 1 → r ≠ 2 → I r = I0 r
theorem s_apk {I0 : Mem} (K : Mem → Option Mem) : ∀ (n i : Nat) (I : Mem), i + n = 22 → AP I0 i I → ∃ I', f_apk K n i I = K I' ∧ AP I0 22 I' := by
  intro n
  induction n with
  | zero =>
    intro i I h hA
    have h22 : i = 22 := by omega
    subst h22
    exact ⟨I, rfl, hA⟩
  | succ n ih =>
    intro i I h hA
    obtain ⟨h1, h2, h3⟩ := hA
    have hc := (chT0 i (by omega)).1
    have e : f_X6_append (sch 2 (nI i)) I = some (stm (stm I 2 i (nI (x0 i))) 1 1 (nI (i + 1))) := by
      unfold f_X6_append
      rw [h1, if_neg (show ¬ (200 : Int32) ≤ nI i from nI_ge (b := 200) (by omega) (by decide)), ck_t (inb_n (show i < 200 by omega) (by decide)), nI_tn (by omega), hc, stm_row (show 1 ≠ 2 by decide), h1, nI_1]
    obtain ⟨I', a1, a2⟩ := ih (i + 1) (stm (stm I 2 i (nI (x0 i))) 1 1 (nI (i + 1))) (by omega) ⟨stm_at _ _ _ _, fun j hj => by
      rw [stm_row (show 2 ≠ 1 by decide)]
      by_cases q : j = i
      · rw [q, stm_at]
      · rw [stm_ne q]
        exact h2 j (by omega), fun r q1 q2 => by rw [stm_row q1, stm_row q2]; exact h3 r q1 q2⟩
    refine ⟨I', ?_, a2⟩
    show bV (f_X6_append (sch 2 (nI i)) I) _ = _
    rw [e, bV_some]
    exact a1
/-- what the class holds behind its constructor -/
theorem s_init : ∃ I1, f_init i0 = some I1 ∧ IC I1 0 x0 tau0 0 (fun _ => tau0) := by
  obtain ⟨I, a1, l1, l2, l3⟩ := s_apk (I0 := i0) f_fin 22 0 i0 rfl ⟨rfl, fun j hj => absurd hj (Nat.not_lt_zero j), fun _ _ _ => rfl⟩
  have hX : TXT I 22 x0 := ⟨l1, by decide, fun i hi => ⟨l2 i hi, (chT0 i hi).2⟩⟩
  have hK : KK I (fun i => 17 + 6 * i) := by
    refine ⟨fun i hi => ⟨?_, by dsimp only; omega, by dsimp only; omega, by dsimp only; omega, ?_⟩, fun i j _ _ h => by
      have h : 17 + 6 * i = 17 + 6 * j := h
      omega⟩
    · rw [l3 16 (by decide) (by decide)]
      rfl
    · match i, hi with
      | 0, _ => rfl
      | 1, _ => rfl
      | 2, _ => rfl
      | 3, _ => rfl
      | 4, _ => rfl
      | 5, _ => rfl
  have hV := (s_layText hX hK).2
  rw [run0] at hV
  obtain ⟨I2, b1, hC, -, -⟩ := hV ⟨rfl, by decide +kernel⟩
  have hr1 : ∀ r, r ≠ 1 → stm I2 1 1 (0 : Int32) r = I2 r := fun r a => stm_row a
  refine ⟨stm I2 1 1 0, ?_, ?_⟩
  · show f_apk f_fin 22 0 i0 = _
    rw [a1]
    show bI (f_X8_layText I) _ = _
    rw [b1, bI_some]
  · obtain ⟨-, h2, h3, ⟨κ, h4⟩, h5, h6, h7, h8⟩ := hC
    exact ⟨⟨by rw [stm_at]; rfl, by omega, fun i hi => by omega⟩, h2, h3.rows (fun r _ _ => hr1 r (by omega)), ⟨κ, h4.same (fun r _ _ => hr1 r (by omega))⟩, h5, fun k hk => (h6 k hk).rows (fun r _ _ => hr1 r (by omega)), h7.same (fun r _ _ => hr1 r (by omega)), h8.rows (fun r _ _ => hr1 r (by omega))⟩
/-- the reference's rows behind its constructor -/
def m0 (i : Nat) : Nat → Int32 := if i = 91 then nowF else fun _ => 0
def jn (I1 : Mem) : Mem := fun i => if i < 89 then I1 i else m0 i
theorem tm0 : TM nowF tau0 := by
  refine ⟨by decide +kernel, ?_, by decide +kernel, by decide +kernel⟩
  rw [show tau0 3 = 3 by decide +kernel]
  intro k hk
  match k, hk with
  | 0, _ => exact ⟨by decide +kernel, by decide +kernel, by decide +kernel⟩
  | 1, _ => exact ⟨by decide +kernel, by decide +kernel, by decide +kernel⟩
  | 2, _ => exact ⟨by decide +kernel, by decide +kernel, by decide +kernel⟩
theorem ok0 {I1 : Mem} (hC : IC I1 0 x0 tau0 0 (fun _ => tau0)) : Ok (jn I1) := by
  refine ⟨0, x0, tau0, 0, fun _ => tau0, hC.same (fun r hr => ?_), rfl, fun i hi => absurd hi (Nat.not_lt_zero i), tm0, rfl, by decide, fun k hk => absurd hk (Nat.not_lt_zero k)⟩
  show (if r < 89 then I1 r else m0 r) = I1 r
  rw [if_pos (by omega)]
theorem kept0 {I1 : Mem} (hC : IC I1 0 x0 tau0 0 (fun _ => tau0)) : ∀ j, j < 6 → (I1 16 j).toNatClampNeg < 89 := by
  obtain ⟨-, -, -, ⟨κ, h⟩, -⟩ := hC
  intro j hj
  obtain ⟨a, -, b, -⟩ := h.2.2.1.1 j hj
  rw [a]
  show tn (nI (κ j)) < 89
  rw [nI_tn (by omega)]
  omega
