/-! READING A TEXT: items; the class -/
def kyN (i : Nat) : Nat := if i = 0 then 110 else if i = 1 then 99 else 109
def loN (i : Nat) : Nat := if i = 0 then 1 else 0
def hiN (i : Nat) : Nat := if i = 0 then 400 else if i = 1 then 20 else 1
def rdT (ρ : Td) (i v : Nat) : Td := fun j => if j = i then v else ρ j
def adT (ρ : Td) (n c : Nat) : Td := fun j => if j = 3 then ρ 3 + 1 else if j = 8 + ρ 3 then n else if j = 12 + ρ 3 then c else if j = 4 + ρ 3 then 10 else ρ j
def WFr (ρ : Td) : Prop := (1 ≤ ρ 0 ∧ ρ 0 ≤ 400) ∧ ρ 1 ≤ 20 ∧ ρ 2 ≤ 1 ∧ ρ 3 ≤ 4 ∧ (∀ k, k < ρ 3 → ρ (4 + k) ≤ 99 ∧ vld (ρ (8 + k)) (ρ (12 + k))) ∧ ∀ j, j < 100 → ρ (16 + j) = 0
theorem rdT_at (ρ : Td) (i v : Nat) : rdT ρ i v i = v := if_pos rfl
theorem rdT_ne {ρ : Td} {i v j : Nat} (h : j ≠ i) : rdT ρ i v j = ρ j := if_neg h
theorem adT_3 (ρ : Td) (n c : Nat) : adT ρ n c 3 = ρ 3 + 1 := if_pos rfl
theorem adT_n {ρ : Td} {n c : Nat} : adT ρ n c (8 + ρ 3) = n := by
  unfold adT
  rw [if_neg (by omega), if_pos rfl]
theorem adT_c {ρ : Td} {n c : Nat} : adT ρ n c (12 + ρ 3) = c := by
  unfold adT
  rw [if_neg (by omega), if_neg (by omega), if_pos rfl]
theorem adT_p {ρ : Td} {n c : Nat} (h : ρ 3 < 4) : adT ρ n c (4 + ρ 3) = 10 := by
  unfold adT
  rw [if_neg (by omega), if_neg (by omega), if_neg (by omega), if_pos rfl]
theorem adT_o {ρ : Td} {n c j : Nat} (h3 : j ≠ 3) (h8 : j ≠ 8 + ρ 3) (h12 : j ≠ 12 + ρ 3) (h4 : j ≠ 4 + ρ 3) : adT ρ n c j = ρ j := by
  unfold adT
  rw [if_neg h3, if_neg h8, if_neg h12, if_neg h4]
/-- an item from a up to its ; at e -/
def Item (x : Nat → Nat) (L : Nat) (ρ : Td) (a e : Nat) (ρ' : Td) : Prop := a < e ∧ e < L ∧ x e = 59 ∧
  ((∃ i, i < 3 ∧ x a = kyN i ∧ nOk x (a + 1) e ∧ loN i ≤ vl x (a + 1) (e - (a + 1)) ∧ vl x (a + 1) (e - (a + 1)) ≤ hiN i ∧ ρ' = rdT ρ i (vl x (a + 1) (e - (a + 1)))) ∨
   (x a = 112 ∧ ∃ m, m < e ∧ x m = 44 ∧ nOk x (a + 1) m ∧ nOk x (m + 1) e ∧ vl x (a + 1) (m - (a + 1)) < ρ 3 ∧ vl x (m + 1) (e - (m + 1)) ≤ 99 ∧ ρ' = rdT ρ (4 + vl x (a + 1) (m - (a + 1))) (vl x (m + 1) (e - (m + 1)))) ∨
   (x a = 107 ∧ fOk x (a + 1) e ∧ ρ 3 < 4 ∧ ρ' = adT ρ (e - (a + 1)) (cdN x (a + 1) (e - (a + 1)))))
theorem kyN_3 {i : Nat} (h : i < 3) : kyN i = 110 ∨ kyN i = 99 ∨ kyN i = 109 := by
  match i, h with
  | 0, _ => exact Or.inl rfl
  | 1, _ => exact Or.inr (Or.inl rfl)
  | 2, _ => exact Or.inr (Or.inr rfl)
theorem Item.no59 {x : Nat → Nat} {L : Nat} {ρ ρ' : Td} {a e : Nat} (h : Item x L ρ a e ρ') : ∀ j, a ≤ j → j < e → x j ≠ 59 := by
  obtain ⟨h1, h2, h3, h4⟩ := h
  intro j hj1 hj2 h59
  rcases h4 with ⟨i, i1, i2, i3, -⟩ | ⟨i1, m, m1, m2, m3, m4, -⟩ | ⟨i1, i2, -⟩
  · by_cases e : j = a
    · rw [e, i2] at h59
      have := kyN_3 i1
      omega
    · have := i3.2.2 j (by omega) hj2
      unfold dig at this
      omega
  · by_cases e : j = a
    · rw [e, i1] at h59
      omega
    · by_cases e2 : j = m
      · rw [e2, m2] at h59
        omega
      · by_cases e3 : j < m
        · have := m3.2.2 j (by omega) e3
          unfold dig at this
          omega
        · have := m4.2.2 j (by omega) hj2
          unfold dig at this
          omega
  · by_cases e : j = a
    · rw [e, i1] at h59
      omega
    · have := i2.2.2.1 j (by omega) hj2
      unfold isF at this
      omega
theorem Item.wf {x : Nat → Nat} {L : Nat} {ρ ρ' : Td} {a e : Nat} (h : Item x L ρ a e ρ') (hW : WFr ρ) : WFr ρ' := by
  obtain ⟨w0, w1, w2, w3, w4, w5⟩ := hW
  obtain ⟨h1, h2, h3, h4⟩ := h
  rcases h4 with ⟨i, i1, i2, i3, i4, i5, rfl⟩ | ⟨i1, m, m1, m2, m3, m4, m5, m6, rfl⟩ | ⟨i1, i2, i3, rfl⟩
  · generalize vl x (a + 1) (e - (a + 1)) = v at i4 i5
    have e3 : rdT ρ i v 3 = ρ 3 := rdT_ne (by omega)
    refine ⟨?_, ?_, ?_, by rw [e3]; exact w3, by
      rw [e3]
      intro k hk
      rw [rdT_ne (show 4 + k ≠ i by omega), rdT_ne (show 8 + k ≠ i by omega), rdT_ne (show 12 + k ≠ i by omega)]
      exact w4 k hk, fun j hj => by rw [rdT_ne (by omega)]; exact w5 j hj⟩
    · by_cases q : 0 = i
      · subst q; rw [rdT_at]; exact ⟨i4, i5⟩
      · rw [rdT_ne q]; exact w0
    · by_cases q : 1 = i
      · subst q; rw [rdT_at]; exact i5
      · rw [rdT_ne q]; exact w1
    · by_cases q : 2 = i
      · subst q; rw [rdT_at]; exact i5
      · rw [rdT_ne q]; exact w2
  · generalize vl x (a + 1) (m - (a + 1)) = t at m5
    generalize vl x (m + 1) (e - (m + 1)) = v at m6
    unfold WFr
    rw [rdT_ne (show 0 ≠ 4 + t by omega), rdT_ne (show 1 ≠ 4 + t by omega), rdT_ne (show 2 ≠ 4 + t by omega), rdT_ne (show 3 ≠ 4 + t by omega)]
    refine ⟨w0, w1, w2, w3, fun k hk => ?_, fun j hj => by rw [rdT_ne (by omega)]; exact w5 j hj⟩
    rw [rdT_ne (show 8 + k ≠ 4 + t by omega), rdT_ne (show 12 + k ≠ 4 + t by omega)]
    refine ⟨?_, (w4 k hk).2⟩
    by_cases q : 4 + k = 4 + t
    · rw [q, rdT_at]; exact m6
    · rw [rdT_ne q]; exact (w4 k hk).1
  · have hv := fOk_vld i2
    generalize e - (a + 1) = n at hv
    generalize cdN x (a + 1) n = c at hv
    unfold WFr
    rw [adT_o (show 0 ≠ 3 by omega) (by omega) (by omega) (by omega), adT_o (show 1 ≠ 3 by omega) (by omega) (by omega) (by omega), adT_o (show 2 ≠ 3 by omega) (by omega) (by omega) (by omega), adT_3]
    refine ⟨w0, w1, w2, by omega, fun k hk => ?_, fun j hj => by rw [adT_o (by omega) (by omega) (by omega) (by omega)]; exact w5 j hj⟩
    by_cases q : k = ρ 3
    · rw [q, adT_n, adT_c, adT_p i3]
      exact ⟨by omega, hv⟩
    · rw [adT_o (show 4 + k ≠ 3 by omega) (by omega) (by omega) (by omega), adT_o (show 8 + k ≠ 3 by omega) (by omega) (by omega) (by omega), adT_o (show 12 + k ≠ 3 by omega) (by omega) (by omega) (by omega)]
      exact w4 k (by omega)
theorem sidx0T : ∀ c, c < 127 → (if c = 110 then sidx 0 (nI c) = 0 else if c = 99 then sidx 0 (nI c) = 1 else if c = 109 then sidx 0 (nI c) = 2 else sidx 0 (nI c) = -1) := by decide +kernel
theorem sidx0_k {i : Nat} (h : i < 3) : sidx 0 (nI (kyN i)) = nI i := by
  match i, h with
  | 0, _ => decide
  | 1, _ => decide
  | 2, _ => decide
theorem sidx0_n {c : Nat} (hc : c < 127) (h : ∀ i, i < 3 → c ≠ kyN i) : sidx 0 (nI c) = -1 := by
  have := sidx0T c hc
  rw [if_neg (show ¬ c = 110 from h 0 (by decide)), if_neg (show ¬ c = 99 from h 1 (by decide)), if_neg (show ¬ c = 109 from h 2 (by decide))] at this
  exact this
theorem exT : ∀ i, i < 3 → exv 0 i = nI (loN i) ∧ exv 1 i = nI (hiN i) := by decide +kernel
theorem hiN_le (i : Nat) : hiN i ≤ 400 := by
  unfold hiN
  by_cases a : i = 0
  · rw [if_pos a]; decide
  · rw [if_neg a]
    by_cases b : i = 1
    · rw [if_pos b]; decide
    · rw [if_neg b]; decide
theorem loN_le (i : Nat) : loN i ≤ 1 := by
  unfold loN
  by_cases a : i = 0
  · rw [if_pos a]; decide
  · rw [if_neg a]; decide
/-- the class reads an item -/
theorem s_readItem {I : Mem} {L : Nat} {x : Nat → Nat} {ρ : Td} (hX : TXT I L x) (hW : WFr ρ) (hT : TX I 9 ρ) {a e : Nat} (hae : a ≤ e) (he : e < L) (h59 : x e = 59) : (∀ ρ', Item x L ρ a e ρ' → ∃ I', f_X6_readItem_1_9 (nI a) (nI e) I = some (1, I') ∧ TX I' 9 ρ' ∧ ∀ r, r < 9 ∨ 15 ≤ r → I' r = I r) ∧ ((∀ ρ', ¬ Item x L ρ a e ρ') → f_X6_readItem_1_9 (nI a) (nI e) I = some (0, I)) := by
  have h200 := hX.2.1
  obtain ⟨w0, w1, w2, w3, w4, w5⟩ := hW
  unfold f_X6_readItem_1_9
  by_cases hlt : a < e
  rotate_left 1
  · rw [if_neg (nI_nlt (by omega) (by omega))]
    exact ⟨fun ρ' h => absurd h.1 hlt, fun _ => rfl⟩
  obtain ⟨x1, x2, x3⟩ := hX.2.2 a (by omega)
  rw [if_pos (nI_lt hlt (by omega)), ck_t (inb_n (show a < 200 by omega) (by decide)), nI_tn (by omega), x1, nI_1]
  have hnum := s_figuresIn hX (b := a + 1) (e := e) (by omega) (by omega)
  have hfol := s_foldsIn hX (b := a + 1) (e := e) (by omega) (by omega)
  by_cases k107 : x a = 107
  · rw [if_pos (show nI (x a) = 107 by rw [k107]; rfl)]
    unfold f_X6_readScheme_1_9
    by_cases hok : fOk x (a + 1) e
    · have hv := fOk_vld hok
      have hcl := cdN_lt x (a + 1) (e - (a + 1))
      have h256 := pow44 (show e - (a + 1) < 5 by have := hok.2.1; omega)
      rw [hfol.1 hok, bI_some, if_neg (nI_pos (by omega)), hT.1]
      by_cases h4 : ρ 3 < 4
      · rw [if_pos (show nI (ρ 3) < (4 : Int32) from nI_lt h4 (by decide))]
        refine ⟨fun ρ' h => ?_, fun h => absurd ⟨hlt, he, h59, Or.inr (Or.inr ⟨k107, hok, h4, rfl⟩)⟩ (h _)⟩
        have hρ : ρ' = adT ρ (e - (a + 1)) (cdN x (a + 1) (e - (a + 1))) := by
          rcases h.2.2.2 with ⟨i, i1, i2, -⟩ | ⟨i1, -⟩ | ⟨-, -, -, i4⟩
          · have := kyN_3 i1; omega
          · omega
          · exact i4
        subst hρ
        rw [nI_sub (by omega) (by omega)]
        generalize e - (a + 1) = n
        generalize cdN x (a + 1) n = c
        unfold f_X7_addScheme_9
        have hck4 : ∀ {α : Type} (z : Option α), ck (inb (nI (ρ 3)) 4) z = z := fun z => ck_t (inb_n h4 (by decide))
        rw [hT.1, if_neg (show ¬ (4 : Int32) ≤ nI (ρ 3) from nI_ge h4 (by decide)), hck4, nI_tn (by omega), stm_row (show 9 ≠ 11 by decide), hT.1, hck4, nI_tn (by omega), stm_row (show 9 ≠ 12 by decide), stm_row (show 9 ≠ 11 by decide), hT.1, hck4, nI_tn (by omega), stm_row (show 9 ≠ 13 by decide), stm_row (show 9 ≠ 12 by decide), stm_row (show 9 ≠ 11 by decide), hT.1, nI_1, bV_some, bI_some, ck_t (by decide)]
        refine ⟨_, rfl, ⟨?_, ?_, ?_, ?_⟩, ?_⟩
        · rw [stm_at, adT_3]
        · intro i hi
          show stm _ _ _ _ 10 i = _
          rw [stm_row (show 10 ≠ 9 by decide), stm_row (show 10 ≠ 13 by decide), stm_row (show 10 ≠ 12 by decide), stm_row (show 10 ≠ 11 by decide), adT_o (by omega) (by omega) (by omega) (by omega)]
          exact hT.2.1 i hi
        · rw [adT_3]
          intro k hk
          show stm _ _ _ _ 11 k = _ ∧ stm _ _ _ _ 12 k = _ ∧ stm _ _ _ _ 13 k = _
          rw [stm_row (show 11 ≠ 9 by decide), stm_row (show 11 ≠ 13 by decide), stm_row (show 11 ≠ 12 by decide), stm_row (show 12 ≠ 9 by decide), stm_row (show 12 ≠ 13 by decide), stm_row (show 13 ≠ 9 by decide)]
          by_cases q : k = ρ 3
          · rw [q, stm_at, stm_at, stm_at, adT_n, adT_c, adT_p h4]
            exact ⟨rfl, rfl, rfl⟩
          · rw [stm_ne q, stm_ne q, stm_ne q, stm_row (show 12 ≠ 11 by decide), stm_row (show 13 ≠ 12 by decide), stm_row (show 13 ≠ 11 by decide), adT_o (show 4 + k ≠ 3 by omega) (by omega) (by omega) (by omega), adT_o (show 8 + k ≠ 3 by omega) (by omega) (by omega) (by omega), adT_o (show 12 + k ≠ 3 by omega) (by omega) (by omega) (by omega)]
            exact hT.2.2.1 k (by omega)
        · intro j hj
          show stm _ _ _ _ 14 j = _
          rw [stm_row (show 14 ≠ 9 by decide), stm_row (show 14 ≠ 13 by decide), stm_row (show 14 ≠ 12 by decide), stm_row (show 14 ≠ 11 by decide), adT_o (by omega) (by omega) (by omega) (by omega)]
          exact hT.2.2.2 j hj
        · intro r hr
          rw [stm_row (by omega), stm_row (by omega), stm_row (by omega), stm_row (by omega)]
      · rw [if_neg (show ¬ nI (ρ 3) < (4 : Int32) from nI_nlt (b := 4) (by omega) (by omega)), bI_some, ck_t (by decide)]
        refine ⟨fun ρ' h => ?_, fun _ => rfl⟩
        rcases h.2.2.2 with ⟨i, i1, i2, -⟩ | ⟨i1, -⟩ | ⟨-, -, i3, -⟩
        · have := kyN_3 i1; omega
        · omega
        · omega
    · rw [hfol.2 hok, bI_some, if_pos (show (-1 : Int32) < 0 by decide), bI_some, ck_t (by decide)]
      refine ⟨fun ρ' h => ?_, fun _ => rfl⟩
      rcases h.2.2.2 with ⟨i, i1, i2, -⟩ | ⟨i1, -⟩ | ⟨-, i2, -⟩
      · have := kyN_3 i1; omega
      · omega
      · exact absurd i2 hok
  rw [if_neg (show ¬ nI (x a) = (107 : Int32) from fun q => k107 ((nI_eq (b := 107) (by omega) (by decide)).mp q))]
  by_cases k112 : x a = 112
  · rw [if_pos (show nI (x a) = 112 by rw [k112]; rfl)]
    unfold f_X6_readPrice_1_9
    have hpl := s_commaIn hX (b := a + 1) (e := e) (by omega) (by omega)
    by_cases hex : ∃ m, a + 1 ≤ m ∧ m < e ∧ x m = 44 ∧ ∀ j, a + 1 ≤ j → j < m → x j ≠ 44
    · obtain ⟨m, m1, m2, m3, m4⟩ := hex
      have hp1 : f_X6_commaIn (nI (a + 1)) (nI e) I = some (nI m, I) := hpl.1 m m1 m2 m3 m4
      have hA := s_figuresIn hX (b := a + 1) (e := m) (by omega) (by omega)
      have hB := s_figuresIn hX (b := m + 1) (e := e) (by omega) (by omega)
      rw [hp1, bI_some, if_pos (nI_pos' (by omega)), nI_1]
      -- an item must have this comma
      have hit : ∀ ρ', Item x L ρ a e ρ' → nOk x (a + 1) m ∧ nOk x (m + 1) e ∧ vl x (a + 1) (m - (a + 1)) < ρ 3 ∧ vl x (m + 1) (e - (m + 1)) ≤ 99 ∧ ρ' = rdT ρ (4 + vl x (a + 1) (m - (a + 1))) (vl x (m + 1) (e - (m + 1))) := by
        intro ρ' h
        rcases h.2.2.2 with ⟨i, i1, i2, -⟩ | ⟨-, m', n1, n2, n3, n4, n5, n6, n7⟩ | ⟨i1, -⟩
        · have := kyN_3 i1; omega
        · have hmm : m' = m := by
            rcases Nat.lt_trichotomy m' m with g | g | g
            · exact absurd n2 (m4 m' (by have := n3.1; omega) g)
            · exact g
            · have := n3.2.2 m (by omega) g
              unfold dig at this
              omega
          subst hmm
          exact ⟨n3, n4, n5, n6, n7⟩
        · omega
      by_cases c1 : nOk x (a + 1) m
      rotate_left 1
      · rw [hA.2 c1, bI_some]
        refine ⟨fun ρ' h => absurd (hit ρ' h).1 c1, fun _ => ?_⟩
        by_cases c2 : nOk x (m + 1) e
        · rw [hB.1 c2, bI_some, if_pos (show (-1 : Int32) < 0 by decide), bI_some, ck_t (by decide)]
        · rw [hB.2 c2, bI_some, if_pos (show (-1 : Int32) < 0 by decide), bI_some, ck_t (by decide)]
      have hv1 := c1.lt
      rw [hA.1 c1, bI_some]
      by_cases c3 : vl x (a + 1) (m - (a + 1)) < ρ 3
      rotate_left 1
      · refine ⟨fun ρ' h => absurd (hit ρ' h).2.2.1 c3, fun _ => ?_⟩
        have hle : nI (ρ 3) ≤ nI (vl x (a + 1) (m - (a + 1))) := nI_le (by omega) (by omega)
        by_cases c2 : nOk x (m + 1) e
        · rw [hB.1 c2, bI_some, if_neg (nI_pos (by omega)), hT.1, if_pos hle, bI_some, ck_t (by decide)]
        · rw [hB.2 c2, bI_some, if_neg (nI_pos (by omega)), hT.1, if_pos hle, bI_some, ck_t (by decide)]
      by_cases c2 : nOk x (m + 1) e
      rotate_left 1
      · rw [hB.2 c2, bI_some, if_neg (nI_pos (by omega)), hT.1, if_neg (nI_ge c3 (by omega)), if_pos (show (-1 : Int32) < 0 by decide), bI_some, ck_t (by decide)]
        exact ⟨fun ρ' h => absurd (hit ρ' h).2.1 c2, fun _ => rfl⟩
      have hv2 := c2.lt
      rw [hB.1 c2, bI_some, if_neg (nI_pos (by omega)), hT.1, if_neg (nI_ge c3 (by omega)), if_neg (nI_pos (by omega))]
      by_cases c4 : vl x (m + 1) (e - (m + 1)) ≤ 99
      rotate_left 1
      · rw [if_neg (show ¬ nI (vl x (m + 1) (e - (m + 1))) ≤ (99 : Int32) from nI_ge (a := 99) (by omega) (by omega)), bI_some, ck_t (by decide)]
        exact ⟨fun ρ' h => absurd (hit ρ' h).2.2.2.1 c4, fun _ => rfl⟩
      refine ⟨fun ρ' h => ?_, fun h => absurd ⟨hlt, he, h59, Or.inr (Or.inl ⟨k112, m, m2, m3, c1, c2, c3, c4, rfl⟩)⟩ (h _)⟩
      have hρ := (hit ρ' h).2.2.2.2
      subst hρ
      generalize vl x (a + 1) (m - (a + 1)) = t at c3 hv1
      generalize vl x (m + 1) (e - (m + 1)) = v at c4
      rw [if_pos (show nI v ≤ (99 : Int32) from nI_le (b := 99) (by omega) (by decide)), ck_t (inb_n (show t < 4 by omega) (by decide)), nI_tn (by omega), bI_some, ck_t (by decide)]
      refine ⟨_, rfl, ⟨?_, ?_, ?_, ?_⟩, ?_⟩
      · rw [stm_row (by decide), rdT_ne (by omega)]
        exact hT.1
      · intro i hi
        show stm _ _ _ _ 10 i = _
        rw [stm_row (by decide), rdT_ne (by omega)]
        exact hT.2.1 i hi
      · rw [rdT_ne (show 3 ≠ 4 + t by omega)]
        intro k hk
        show stm _ _ _ _ 11 k = _ ∧ stm _ _ _ _ 12 k = _ ∧ stm _ _ _ _ 13 k = _
        obtain ⟨s1, s2, s3⟩ := hT.2.2.1 k hk
        rw [stm_row (show 11 ≠ 13 by decide), stm_row (show 12 ≠ 13 by decide), rdT_ne (show 8 + k ≠ 4 + t by omega), rdT_ne (show 12 + k ≠ 4 + t by omega)]
        refine ⟨s1, s2, ?_⟩
        by_cases q : k = t
        · rw [q, stm_at, rdT_at]
        · rw [stm_ne q, rdT_ne (by omega)]
          exact s3
      · intro j hj
        show stm _ _ _ _ 14 j = _
        rw [stm_row (by decide), rdT_ne (by omega)]
        exact hT.2.2.2 j hj
      · intro r hr
        rw [stm_row (by omega)]
    · have hno : ∀ j, a + 1 ≤ j → j < e → x j ≠ 44 := by
        have : ∀ m, a + 1 + m ≤ e → ∀ j, a + 1 ≤ j → j < a + 1 + m → x j ≠ 44 := by
          intro m
          induction m with
          | zero => intro _ j b1 b2; omega
          | succ m ih =>
            intro hm j b1 b2
            by_cases q : j < a + 1 + m
            · exact ih (by omega) j b1 q
            · intro h44
              refine hex ⟨j, b1, by omega, h44, fun j' d1 d2 => ih (by omega) j' d1 (by omega)⟩
        intro j b1 b2
        exact this (e - (a + 1)) (by omega) j b1 (by omega)
      have hp1 : f_X6_commaIn (nI (a + 1)) (nI e) I = some (-1, I) := hpl.2 hno
      rw [hp1, bI_some, if_neg (show ¬ (0 : Int32) ≤ -1 by decide), bI_some, ck_t (by decide)]
      refine ⟨fun ρ' h => ?_, fun _ => rfl⟩
      rcases h.2.2.2 with ⟨i, i1, i2, -⟩ | ⟨-, m', n1, n2, n3, -⟩ | ⟨i1, -⟩
      · have := kyN_3 i1; omega
      · exact absurd n2 (hno m' (by have := n3.1; omega) n1)
      · omega
  rw [if_neg (show ¬ nI (x a) = (112 : Int32) from fun q => k112 ((nI_eq (b := 112) (by omega) (by decide)).mp q))]
  unfold f_X6_readNumber_1_9
  by_cases hky : ∃ i, i < 3 ∧ x a = kyN i
  · obtain ⟨i, i1, i2⟩ := hky
    have hlo := loN_le i
    have hhi := hiN_le i
    rw [i2, sidx0_k i1, if_neg (nI_pos (by omega)), if_pos (show nI i < (3 : Int32) from nI_lt i1 (by decide))]
    have hit : ∀ ρ', Item x L ρ a e ρ' → nOk x (a + 1) e ∧ loN i ≤ vl x (a + 1) (e - (a + 1)) ∧ vl x (a + 1) (e - (a + 1)) ≤ hiN i ∧ ρ' = rdT ρ i (vl x (a + 1) (e - (a + 1))) := by
      intro ρ' h
      rcases h.2.2.2 with ⟨i', j1, j2, j3, j4, j5, j6⟩ | ⟨j1, -⟩ | ⟨j1, -⟩
      · have hii : i' = i := by
          have hh : kyN i' = kyN i := by rw [← j2, i2]
          match i, i', i1, j1, hh with
          | 0, 0, _, _, _ => rfl
          | 1, 1, _, _, _ => rfl
          | 2, 2, _, _, _ => rfl
          | 0, 1, _, _, hh => exact absurd hh (by decide)
          | 0, 2, _, _, hh => exact absurd hh (by decide)
          | 1, 0, _, _, hh => exact absurd hh (by decide)
          | 1, 2, _, _, hh => exact absurd hh (by decide)
          | 2, 0, _, _, hh => exact absurd hh (by decide)
          | 2, 1, _, _, hh => exact absurd hh (by decide)
        subst hii
        exact ⟨j3, j4, j5, j6⟩
      · omega
      · omega
    have hck3 : ∀ {α : Type} (z : Option α), ck (inb (nI i) 3) z = z := fun z => ck_t (inb_n i1 (by decide))
    by_cases c1 : nOk x (a + 1) e
    rotate_left 1
    · rw [hnum.2 c1, bI_some, hck3, nI_tn (by omega), (exT i i1).1, if_pos (lt_T.mpr (by rw [nI_toInt (by omega), show (-1 : Int32).toInt = -1 by decide]; omega)), bI_some, ck_t (by decide)]
      exact ⟨fun ρ' h => absurd (hit ρ' h).1 c1, fun _ => rfl⟩
    have hv := c1.lt
    rw [hnum.1 c1, bI_some, hck3, nI_tn (by omega), (exT i i1).1, (exT i i1).2, hck3, hck3]
    by_cases c2 : loN i ≤ vl x (a + 1) (e - (a + 1))
    rotate_left 1
    · rw [if_pos (nI_lt (by omega) (by omega)), bI_some, ck_t (by decide)]
      exact ⟨fun ρ' h => absurd (hit ρ' h).2.1 c2, fun _ => rfl⟩
    rw [if_neg (nI_nlt c2 (by omega))]
    by_cases c3 : vl x (a + 1) (e - (a + 1)) ≤ hiN i
    rotate_left 1
    · rw [if_neg (nI_ge (by omega) (by omega)), bI_some, ck_t (by decide)]
      exact ⟨fun ρ' h => absurd (hit ρ' h).2.2.1 c3, fun _ => rfl⟩
    refine ⟨fun ρ' h => ?_, fun h => absurd ⟨hlt, he, h59, Or.inl ⟨i, i1, i2, c1, c2, c3, rfl⟩⟩ (h _)⟩
    have hρ := (hit ρ' h).2.2.2
    subst hρ
    rw [if_pos (nI_le c3 (by omega)), bI_some, ck_t (by decide)]
    generalize vl x (a + 1) (e - (a + 1)) = v
    refine ⟨_, rfl, ⟨?_, ?_, ?_, ?_⟩, ?_⟩
    · rw [stm_row (by decide), rdT_ne (by omega)]
      exact hT.1
    · intro t ht
      show stm _ _ _ _ 10 t = _
      by_cases q : t = i
      · rw [q, stm_at, rdT_at]
      · rw [stm_ne q, rdT_ne q]
        exact hT.2.1 t ht
    · rw [rdT_ne (show 3 ≠ i by omega)]
      intro k hk
      show stm _ _ _ _ 11 k = _ ∧ stm _ _ _ _ 12 k = _ ∧ stm _ _ _ _ 13 k = _
      rw [stm_row (show 11 ≠ 10 by decide), stm_row (show 12 ≠ 10 by decide), stm_row (show 13 ≠ 10 by decide), rdT_ne (show 8 + k ≠ i by omega), rdT_ne (show 12 + k ≠ i by omega), rdT_ne (show 4 + k ≠ i by omega)]
      exact hT.2.2.1 k hk
    · intro j hj
      show stm _ _ _ _ 14 j = _
      rw [stm_row (by decide), rdT_ne (by omega)]
      exact hT.2.2.2 j hj
    · intro r hr
      rw [stm_row (by omega)]
  · rw [sidx0_n (by omega) (fun i hi h => hky ⟨i, hi, h⟩), if_pos (show (-1 : Int32) < 0 by decide), bI_some, ck_t (by decide)]
    refine ⟨fun ρ' h => ?_, fun _ => rfl⟩
    rcases h.2.2.2 with ⟨i', j1, j2, -⟩ | ⟨j1, -⟩ | ⟨j1, -⟩
    · exact absurd ⟨i', j1, j2⟩ hky
    · omega
    · omega
/-- how a text is read from a on -/
noncomputable def runV (x : Nat → Nat) (L : Nat) : Nat → Td → Nat → Int32 × Td
  | 0, ρ, _ => (-4, ρ)
  | f + 1, ρ, a => if L ≤ a then (-4, ρ) else @dite (Int32 × Td) (∃ p : Nat × Td, Item x L ρ a p.1 p.2) (Classical.propDecidable _) (fun h => runV x L f h.choose.2 (h.choose.1 + 1)) (fun _ => (nI a, ρ))
/-- letters that are no ; are passed over -/
theorem s_pass {L : Nat} {x : Nat → Nat} {I : Mem} (hX : TXT I L x) (K37 K49 : Int32 → Mem → Option (Int32 × Mem)) (z : Int32) : ∀ (d i g : Nat), i + d ≤ L → (∀ j, i ≤ j → j < i + d → x j ≠ 59) → l_X6_readInto_1_9_8 K37 K49 (g + d) z (nI i) I = l_X6_readInto_1_9_8 K37 K49 g z (nI (i + d)) I := by
  have h200 := hX.2.1
  intro d
  induction d with
  | zero => intro i g _ _; rfl
  | succ d ih =>
    intro i g hi hno
    obtain ⟨x1, x2, x3⟩ := hX.2.2 i (by omega)
    have h59 : x i ≠ 59 := hno i (Nat.le_refl _) (by omega)
    rw [show g + (d + 1) = (g + d) + 1 by omega, u_X6_readInto_1_9_8]
    unfold b_X6_readInto_1_9_8
    rw [hX.1, if_neg (nI_ge (by omega) (by omega)), ck_t (inb_n (show i < 200 by omega) (by decide)), nI_tn (by omega), x1, nI_1, if_neg (show ¬ nI (x i) = (59 : Int32) from fun q => h59 ((nI_eq (b := 59) (by omega) (by decide)).mp q)), ih (i + 1) g (by omega) (fun j a b => hno j (by omega) (by omega)), show i + 1 + d = i + (d + 1) by omega]
theorem s_readInto {L : Nat} {x : Nat → Nat} : ∀ (f : Nat) (ρ : Td) (a g : Nat) (I : Mem), TXT I L x → WFr ρ → TX I 9 ρ → a ≤ L → L - a < f → L - a < g → ∃ I', l_X6_readInto_1_9_8 (fun (z5 : Int32) I6 => some (z5, I6)) (fun (z7 : Int32) I8 => (if (I8 1 1) ≤ z7 then some ((-4 : Int32), I8) else some (z7, I8))) g (nI a) (nI a) I = some ((runV x L f ρ a).1, I') ∧ (∀ r, r < 9 ∨ 15 ≤ r → I' r = I r) ∧ ((runV x L f ρ a).1 = -4 → TX I' 9 (runV x L f ρ a).2 ∧ WFr (runV x L f ρ a).2) := by
  intro f
  induction f with
  | zero => intro ρ a g I _ _ _ _ h; omega
  | succ f ih =>
    intro ρ a g I hX hW hT ha hf hg
    have h200 := hX.2.1
    unfold runV
    by_cases hLa : L ≤ a
    · obtain ⟨g', rfl⟩ : ∃ g', g = g' + 1 := ⟨g - 1, by omega⟩
      have hle : nI L ≤ nI a := nI_le hLa (by omega)
      rw [u_X6_readInto_1_9_8]
      unfold b_X6_readInto_1_9_8
      rw [hX.1, if_pos hle, if_pos hLa]
      refine ⟨I, ?_, fun _ _ => rfl, fun _ => ⟨hT, hW⟩⟩
      show (if I 1 1 ≤ nI a then some ((-4 : Int32), I) else some (nI a, I)) = some (-4, I)
      rw [hX.1, if_pos hle]
    rw [if_neg hLa]
    -- up to a ; at e, and what is done there
    have hat : ∀ e, a ≤ e → e < L → x e = 59 → (∀ j, a ≤ j → j < e → x j ≠ 59) → ∃ g', L - (e + 1) < g' ∧ l_X6_readInto_1_9_8 (fun (z5 : Int32) I6 => some (z5, I6)) (fun (z7 : Int32) I8 => (if (I8 1 1) ≤ z7 then some ((-4 : Int32), I8) else some (z7, I8))) g (nI a) (nI a) I = bI (f_X6_readItem_1_9 (nI a) (nI e) I) fun r4 I3 => (if r4 = 0 then some (nI a, I3) else l_X6_readInto_1_9_8 (fun (z5 : Int32) I6 => some (z5, I6)) (fun (z7 : Int32) I8 => (if (I8 1 1) ≤ z7 then some ((-4 : Int32), I8) else some (z7, I8))) g' (nI (e + 1)) (nI (e + 1)) I3) := by
      intro e e1 e2 e3 e4
      obtain ⟨x1, x2, x3⟩ := hX.2.2 e e2
      have hp := s_pass hX (fun (z5 : Int32) I6 => some (z5, I6)) (fun (z7 : Int32) I8 => (if (I8 1 1) ≤ z7 then some ((-4 : Int32), I8) else some (z7, I8))) (nI a) (e - a) a (g - (e - a)) (by omega) (fun j b1 b2 => e4 j b1 (by omega))
      rw [show g - (e - a) + (e - a) = g by omega, show a + (e - a) = e by omega] at hp
      refine ⟨g - (e - a) - 1, by omega, ?_⟩
      rw [hp]
      obtain ⟨g', hg'⟩ : ∃ g', g - (e - a) = g' + 1 := ⟨g - (e - a) - 1, by omega⟩
      rw [hg', u_X6_readInto_1_9_8, Nat.add_sub_cancel]
      show b_X6_readInto_1_9_8 _ _ _ _ _ _ = _
      unfold b_X6_readInto_1_9_8
      rw [hX.1, if_neg (nI_ge (by omega) (by omega)), ck_t (inb_n (show e < 200 by omega) (by decide)), nI_tn (by omega), x1, nI_1, if_pos (show nI (x e) = (59 : Int32) by rw [e3]; rfl)]
    by_cases hit : ∃ p : Nat × Td, Item x L ρ a p.1 p.2
    · rw [dif_pos hit]
      have hI := hit.choose_spec
      generalize hit.choose = p at hI
      obtain ⟨e, ρ'⟩ := p
      dsimp only at hI ⊢
      have h1 := hI.1
      have h2 := hI.2.1
      obtain ⟨I1, b1, b2, b3⟩ := (s_readItem hX hW hT (by omega) h2 hI.2.2.1).1 ρ' hI
      obtain ⟨g', hg', hp⟩ := hat e (by omega) h2 hI.2.2.1 (fun j a b => hI.no59 j a b)
      rw [hp, b1, bI_some, if10]
      obtain ⟨I', c1, c2, c3⟩ := ih ρ' (e + 1) g' I1 (hX.same (b3 1 (by decide)) (b3 2 (by decide))) (hI.wf hW) b2 (by omega) (by omega) hg'
      exact ⟨I', c1, fun r hr => by rw [c2 r hr, b3 r hr], c3⟩
    · rw [dif_neg hit]
      have hne : ¬ nI a = (-4 : Int32) := fun q => by
        have := congrArg Int32.toInt q
        rw [nI_toInt (by omega), show (-4 : Int32).toInt = -4 by decide] at this
        omega
      refine ⟨I, ?_, fun _ _ => rfl, fun q => absurd q hne⟩
      by_cases hex : ∃ e, a ≤ e ∧ e < L ∧ x e = 59 ∧ ∀ j, a ≤ j → j < e → x j ≠ 59
      · obtain ⟨e, e1, e2, e3, e4⟩ := hex
        obtain ⟨g', hg', hp⟩ := hat e e1 e2 e3 e4
        rw [hp, (s_readItem hX hW hT e1 e2 e3).2 (fun ρ' h => hit ⟨(e, ρ'), h⟩), bI_some, if00]
      · have hno : ∀ j, a ≤ j → j < L → x j ≠ 59 := by
          have : ∀ m, a + m ≤ L → ∀ j, a ≤ j → j < a + m → x j ≠ 59 := by
            intro m
            induction m with
            | zero => intro _ j b1 b2; omega
            | succ m ih =>
              intro hm j b1 b2
              by_cases q : j < a + m
              · exact ih (by omega) j b1 q
              · intro h44
                refine hex ⟨j, b1, by omega, h44, fun j' d1 d2 => ih (by omega) j' d1 (by omega)⟩
          intro j b1 b2
          exact this (L - a) (by omega) j b1 (by omega)
        have hp := s_pass hX (fun (z5 : Int32) I6 => some (z5, I6)) (fun (z7 : Int32) I8 => (if (I8 1 1) ≤ z7 then some ((-4 : Int32), I8) else some (z7, I8))) (nI a) (L - a) a (g - (L - a)) (by omega) (fun j b1 b2 => hno j b1 (by omega))
        rw [show g - (L - a) + (L - a) = g by omega, show a + (L - a) = L by omega] at hp
        obtain ⟨g', hg'⟩ : ∃ g', g - (L - a) = g' + 1 := ⟨g - (L - a) - 1, by omega⟩
        rw [hp, hg', u_X6_readInto_1_9_8]
        unfold b_X6_readInto_1_9_8
        rw [hX.1, if_pos (nI_le (Nat.le_refl _) (by omega))]
        show (if I 1 1 ≤ nI a then some ((-4 : Int32), I) else some (nI a, I)) = some (nI a, I)
        rw [hX.1, if_neg (nI_ge (by omega) (by omega))]
/-- nothing told -/
def rho0 : Td := fun j => if j = 0 then 16 else if j = 1 then 2 else 0
theorem rho0_wf : WFr rho0 := ⟨⟨by decide, by decide⟩, by decide, by decide, by decide, fun k hk => absurd hk (Nat.not_lt_zero k), fun j hj => by
  unfold rho0
  rw [if_neg (by omega), if_neg (by omega)]⟩
theorem ex2T : ∀ i, i < 3 → exv 2 i = nI (rho0 i) := by decide +kernel
theorem s_tellNothing (I : Mem) : ∃ I', f_X7_tellNothing_9 I = some I' ∧ TX I' 9 rho0 ∧ ∀ r, r < 9 ∨ 15 ≤ r → I' r = I r := by
  unfold f_X7_tellNothing_9
  have key := fill_loop (fun f y M => l_X7_tellNothing_9_7 (fun I3 => bV (f_X7_unspoil_9 I3) fun I4 => some I4) f y M) (fun I3 => bV (f_X7_unspoil_9 I3) fun I4 => some I4) 10 3 (fun i => exv 2 i) (stm I 9 0 (0 : Int32)) ?_ ?_ fuel (by rw [fuel_v]; decide)
  · rw [s_unspoil_9, bV_some] at key
    refine ⟨_, key, ⟨?_, ?_, fun k hk => absurd hk (Nat.not_lt_zero k), ?_⟩, fun r hr => ?_⟩
    · rw [fil_row (by decide), fil_row (by decide), stm_at]; rfl
    · intro i hi
      show fil _ _ _ _ 10 i = _
      rw [fil_row (by decide), fil_lt hi, ex2T i hi]
    · intro j hj
      show fil _ _ _ _ 14 j = _
      rw [fil_lt hj, rho0_wf.2.2.2.2.2 j hj]; rfl
    · rw [fil_row (by omega), fil_row (by omega), stm_row (by omega)]
  · intro f i hi
    show l_X7_tellNothing_9_7 _ (f + 1) (nI i) _ = l_X7_tellNothing_9_7 _ f (nI (i + 1)) _
    rw [u_X7_tellNothing_9_7]
    unfold b_X7_tellNothing_9_7
    rw [if_neg (show ¬ (3 : Int32) ≤ nI i from nI_ge hi (by decide)), ck_t (inb_n hi (by decide)), ck_t (inb_n hi (by decide)), nI_tn (by omega), nI_1]
  · intro f
    show l_X7_tellNothing_9_7 _ (f + 1) (nI 3) _ = _
    rw [u_X7_tellNothing_9_7]
    unfold b_X7_tellNothing_9_7
    rw [if_pos (by decide)]
theorem s_read8 {I : Mem} {L : Nat} {x : Nat → Nat} (hX : TXT I L x) : ∃ I', f_X6_readInto_1_9 I = some ((runV x L (L + 1) rho0 0).1, I') ∧ (∀ r, r < 9 ∨ 15 ≤ r → I' r = I r) ∧ ((runV x L (L + 1) rho0 0).1 = -4 → TX I' 9 (runV x L (L + 1) rho0 0).2 ∧ WFr (runV x L (L + 1) rho0 0).2) := by
  obtain ⟨I1, a1, a2, a3⟩ := s_tellNothing I
  have h200 := hX.2.1
  obtain ⟨I', b1, b2, b3⟩ := s_readInto (L := L) (x := x) (L + 1) rho0 0 fuel I1 (hX.same (a3 1 (by decide)) (a3 2 (by decide))) rho0_wf a2 (Nat.zero_le _) (by omega) (by rw [fuel_v]; omega)
  refine ⟨I', ?_, fun r hr => by rw [b2 r hr, a3 r hr], b3⟩
  unfold f_X6_readInto_1_9
  rw [a1, bV_some]
  exact b1
