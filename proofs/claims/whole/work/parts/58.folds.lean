/-! FOLDS told anew -/
theorem s_isFold {c : Nat} (hc : c < 127) (I : Mem) : (isF c → f_X9_isFold (nI c) I = some (1, I)) ∧ (¬ isF c → f_X9_isFold (nI c) I = some (0, I)) := by
  unfold f_X9_isFold
  constructor
  · rintro (rfl | rfl | rfl | rfl) <;> rfl
  · intro h
    unfold isF at h
    rw [if_neg (show ¬ nI c = (114 : Int32) from fun q => by have := (nI_eq (b := 114) (by omega) (by decide)).mp q; omega), if_neg (show ¬ nI c = (108 : Int32) from fun q => by have := (nI_eq (b := 108) (by omega) (by decide)).mp q; omega), if_neg (show ¬ nI c = (116 : Int32) from fun q => by have := (nI_eq (b := 116) (by omega) (by decide)).mp q; omega), if_neg (show ¬ nI c = (98 : Int32) from fun q => by have := (nI_eq (b := 98) (by omega) (by decide)).mp q; omega)]
theorem s_isSide9 {c : Nat} (hc : c < 127) (I : Mem) : ((c = 108 ∨ c = 114) → f_X9_isSide (nI c) I = some (1, I)) ∧ (¬ (c = 108 ∨ c = 114) → f_X9_isSide (nI c) I = some (0, I)) := by
  unfold f_X9_isSide
  constructor
  · rintro (rfl | rfl) <;> rfl
  · intro h
    rw [if_neg (show ¬ nI c = (114 : Int32) from fun q => by have := (nI_eq (b := 114) (by omega) (by decide)).mp q; omega), if_neg (show ¬ nI c = (108 : Int32) from fun q => by have := (nI_eq (b := 108) (by omega) (by decide)).mp q; omega)]
def TXm (J : Mem) (L : Nat) (x : Nat → Nat) : Prop := J 89 0 = nI L ∧ L ≤ 200 ∧ ∀ i, i < L → J 90 i = nI (x i) ∧ 32 ≤ x i ∧ x i ≤ 126
theorem s_byteAt {J : Mem} {L : Nat} {x : Nat → Nat} (h : TXm J L x) {i : Nat} (hi : i < 300) : f_X9_byteAt (nI i) J = some ((if i < L then nI (x i) else 0), J) := by
  obtain ⟨h1, h2, h3⟩ := h
  unfold f_X9_byteAt
  rw [h1]
  by_cases h : i < L
  · rw [if_neg (nI_ge h (by omega)), if_pos h, ck_t (inb_n (show i < 200 by omega) (by decide)), nI_tn (by omega), (h3 i h).1]
  · rw [if_pos (nI_le (by omega) (by omega)), if_neg h]
theorem IM.tx9 {I J : Mem} {L : Nat} {x : Nat → Nat} {τ τ' : Td} {d d' : Nat} {us us' : Nat → Td} (hC : IC I L x τ d us) (hM : IM J L x τ' d' us') : TXm J L x := ⟨hM.1, hC.1.2.1, fun i hi => ⟨hM.2.1 i hi, (hC.1.2.2 i hi).2⟩⟩
def smK (x : Nat → Nat) (L : Nat) (τ : Td) (k i : Nat) : Prop := ∀ j, i ≤ j → j < L → x j = letN (fig (τ (8 + k)) (τ (12 + k)) j)
theorem letN_lt (f : Nat) : letN f < 127 := by
  unfold letN
  match f with
  | 0 => decide
  | 1 => decide
  | 2 => decide
  | 3 => decide
  | f + 4 => exact (by decide : (0 : Nat) < 127)
theorem s_folds74 {J : Mem} {L : Nat} {x : Nat → Nat} {τ : Td} (hX : TXm J L x) (hW : WF τ) (hT : TM (J 91) τ) {k : Nat} (hk : k < τ 3) (K : Int32 → Int32 → Int32 → Mem → Option (Int32 × Mem)) : ∀ (d i f : Nat) (s : Int32), i + d = L → d + 1 < f → (s = 0 ∨ (s = 1 ∧ L = τ (8 + k))) → ((∀ j, i ≤ j → j < L → isF (x j)) → ((s = 1 ∧ smK x L τ k i → l_X9_folds_74 K f (nI k) 1 s (nI i) J = K (nI k) 1 1 J) ∧ (¬ (s = 1 ∧ smK x L τ k i) → l_X9_folds_74 K f (nI k) 1 s (nI i) J = K (nI k) 1 0 J))) ∧ (¬ (∀ j, i ≤ j → j < L → isF (x j)) → ∃ z, l_X9_folds_74 K f (nI k) 1 s (nI i) J = K (nI k) 0 z J) := by
  have hS := hW.four
  have h4 := hS.2 k hk
  obtain ⟨t1, t2, t3⟩ := hT.2.1 k hk
  have h200 := hX.2.1
  have hz : ∀ (f : Nat) (s : Int32) (y : Int32), 0 < f → l_X9_folds_74 K f (nI k) 0 s y J = K (nI k) 0 s J := by
    intro f s y hf
    obtain ⟨g, rfl⟩ : ∃ g, f = g + 1 := ⟨f - 1, by omega⟩
    rw [u_X9_folds_74]
    unfold b_X9_folds_74
    rw [if00]
    by_cases h : J 89 0 ≤ y
    · rw [if_pos h]
    · rw [if_neg h]
  intro d
  induction d with
  | zero =>
    intro i f s hi hf hs
    obtain ⟨g, rfl⟩ : ∃ g, f = g + 1 := ⟨f - 1, by omega⟩
    rw [u_X9_folds_74]
    unfold b_X9_folds_74
    rw [hX.1, if_pos (nI_le (by omega) (by omega))]
    refine ⟨fun _ => ⟨fun q => by rw [q.1], fun q => ?_⟩, fun q => absurd (fun j a b => by omega) q⟩
    rcases hs with e | e
    · rw [e]
    · exact absurd ⟨e.1, fun j a b => by omega⟩ q
  | succ d ih =>
    intro i f s hi hf hs
    obtain ⟨g, rfl⟩ : ∃ g, f = g + 1 := ⟨f - 1, by omega⟩
    obtain ⟨x1, x2, x3⟩ := hX.2.2 i (by omega)
    have hfold := s_isFold (show x i < 127 by omega) J
    rw [u_X9_folds_74]
    unfold b_X9_folds_74
    rw [hX.1, if_neg (nI_ge (by omega) (by omega)), if10, ck_t (inb_n (show i < 200 by omega) (by decide)), nI_tn (by omega), x1, nI_1]
    by_cases hF : isF (x i)
    · rw [hfold.1 hF, bI_some]
      rcases hs with e | ⟨e, eL⟩
      · rw [e, if00]
        have ih' := ih (i + 1) g 0 (by omega) (by omega) (Or.inl rfl)
        refine ⟨fun q => ⟨fun q2 => absurd q2.1 (by decide), fun _ => (ih'.1 (fun j a b => q j (by omega) b)).2 (fun q2 => absurd q2.1 (by decide))⟩, fun q => ih'.2 (fun q' => q (fun j a b => ?_))⟩
        by_cases hj : j = i
        · rw [hj]; exact hF
        · exact q' j (by omega) b
      · rw [e, if10, ck_t (inb_n (show i < 200 by omega) (by decide)), idx5, ck_t (inb_n (show 8 + 5 * k + 1 + i < 132 by omega) (by decide)), nI_tn (by omega), t3 i (by omega), x1]
        have hlt := letN_lt (fig (τ (8 + k)) (τ (12 + k)) i)
        by_cases hl : x i = letN (fig (τ (8 + k)) (τ (12 + k)) i)
        · rw [if_pos (show nI (x i) = nI (letN (fig (τ (8 + k)) (τ (12 + k)) i)) by rw [← hl])]
          have ih' := ih (i + 1) g 1 (by omega) (by omega) (Or.inr ⟨rfl, eL⟩)
          refine ⟨fun q => ?_, fun q => ih'.2 (fun q' => q (fun j a b => ?_))⟩
          · have ihq := ih'.1 (fun j a b => q j (by omega) b)
            refine ⟨fun q2 => ihq.1 ⟨rfl, fun j a b => q2.2 j (by omega) b⟩, fun q2 => ihq.2 (fun q3 => q2 ⟨rfl, fun j a b => ?_⟩)⟩
            by_cases hj : j = i
            · rw [hj]; exact hl
            · exact q3.2 j (by omega) b
          · by_cases hj : j = i
            · rw [hj]; exact hF
            · exact q' j (by omega) b
        · rw [if_neg (fun q => hl ((nI_eq (by omega) (by omega)).mp q))]
          have ih' := ih (i + 1) g 0 (by omega) (by omega) (Or.inl rfl)
          refine ⟨fun q => ⟨fun q2 => absurd (q2.2 i (Nat.le_refl _) (by omega)) hl, fun _ => (ih'.1 (fun j a b => q j (by omega) b)).2 (fun q2 => absurd q2.1 (by decide))⟩, fun q => ih'.2 (fun q' => q (fun j a b => ?_))⟩
          by_cases hj : j = i
          · rw [hj]; exact hF
          · exact q' j (by omega) b
    · rw [hfold.2 hF, bI_some]
      refine ⟨fun q => absurd (q i (Nat.le_refl _) (by omega)) hF, fun _ => ?_⟩
      rcases hs with e | ⟨e, eL⟩
      · rw [e, if00]
        exact ⟨0, hz g 0 _ (by omega)⟩
      · rw [e, if10, ck_t (inb_n (show i < 200 by omega) (by decide)), idx5, ck_t (inb_n (show 8 + 5 * k + 1 + i < 132 by omega) (by decide)), nI_tn (by omega), t3 i (by omega), x1]
        by_cases hl : nI (x i) = nI (letN (fig (τ (8 + k)) (τ (12 + k)) i))
        · rw [if_pos hl]
          exact ⟨1, hz g 1 _ (by omega)⟩
        · rw [if_neg hl]
          exact ⟨0, hz g 0 _ (by omega)⟩
/-- what the reference does when folds are told -/
theorem s_folds9 {J : Mem} {L : Nat} {x : Nat → Nat} {τ : Td} (hX : TXm J L x) (hW : WF τ) (hT : TM (J 91) τ) {k : Nat} (hk : k < τ 3) : (¬ (fOk x 0 L ∧ ¬ (L = τ (8 + k) ∧ smK x L τ k 0)) → f_X9_folds (nI k) J = some (-2, J)) ∧ (fOk x 0 L ∧ ¬ (L = τ (8 + k) ∧ smK x L τ k 0) → f_X9_folds (nI k) J = j_X9_folds_140 (nI k) 1 0 J) := by
  have hS := hW.four
  have h4 := hS.2 k hk
  have h200 := hX.2.1
  obtain ⟨t1, t2, t3⟩ := hT.2.1 k hk
  have no : ∀ z, j_X9_folds_140 (nI k) 0 z J = some (-2, J) := fun z => by
    unfold j_X9_folds_140
    rw [if00]
  have hz : ∀ (s : Int32), l_X9_folds_74 (fun (z11 : Int32) (z12 : Int32) (z13 : Int32) I14 => j_X9_folds_140 z11 z12 z13 I14) fuel (nI k) 0 s 0 J = some (-2, J) := by
    intro s
    obtain ⟨g, hg⟩ : ∃ g, fuel = g + 1 := ⟨4999, rfl⟩
    rw [hg, u_X9_folds_74]
    unfold b_X9_folds_74
    rw [if00]
    by_cases h : J 89 0 ≤ 0
    · rw [if_pos h]; exact no s
    · rw [if_neg h]; exact no s
  have j46_0 : j_X9_folds_46 (nI k) 0 J = some (-2, J) := by
    unfold j_X9_folds_46
    rw [idx5', ck_t (inb_n (show 8 + 5 * k < 132 by omega) (by decide)), hz, hz, ite_self]
  unfold f_X9_folds
  rw [s_sch9 hW hT hk, bI_some, if10, hX.1]
  by_cases hL : 1 ≤ L ∧ L ≤ 4
  rotate_left 1
  · rw [in_no (b := 1) (c := 4) rfl rfl (by rw [nI_toInt (by omega)]; omega), bI_some, if00, j46_0]
    exact ⟨fun _ => rfl, fun q => absurd q.1 (fun h => hL ⟨by have := h.1; omega, by have := h.2.1; omega⟩)⟩
  obtain ⟨x1, x2, x3⟩ := hX.2.2 (L - 1) (by omega)
  have hsd := s_isSide9 (show x (L - 1) < 127 by omega) J
  rw [in_k (b := 1) (c := 4) (by omega) rfl rfl hL.1 hL.2, bI_some, if10, hX.1, show nI L - 1 = nI (L - 1) from nI_sub (b := 1) hL.1 (by omega), s_byteAt hX (by omega), bI_some, if_pos (show L - 1 < L by omega)]
  by_cases hs : x (L - 1) = 108 ∨ x (L - 1) = 114
  rotate_left 1
  · rw [hsd.2 hs, bI_some, if00, j46_0]
    exact ⟨fun _ => rfl, fun q => absurd q.1.2.2.2 hs⟩
  rw [hsd.1 hs, bI_some, if10]
  unfold j_X9_folds_46
  rw [idx5', ck_t (inb_n (show 8 + 5 * k < 132 by omega) (by decide)), nI_tn (by omega), t2, hX.1]
  have one : j_X9_folds_140 (nI k) 1 1 J = some (-2, J) := by
    unfold j_X9_folds_140
    rw [if10, if10]
  by_cases hall : ∀ j, 0 ≤ j → j < L → isF (x j)
  rotate_left 1
  · have hnf : ¬ fOk x 0 L := fun h => hall (fun j _ b => h.2.2.1 j (Nat.zero_le _) b)
    refine ⟨fun _ => ?_, fun q => absurd q.1 hnf⟩
    by_cases he : L = τ (8 + k)
    · rw [if_pos (show nI L = nI (τ (8 + k)) by rw [← he])]
      obtain ⟨z, hz'⟩ := (s_folds74 hX hW hT hk (fun (z11 : Int32) (z12 : Int32) (z13 : Int32) I14 => j_X9_folds_140 z11 z12 z13 I14) L 0 fuel 1 (by omega) (by rw [fuel_v]; omega) (Or.inr ⟨rfl, he⟩)).2 hall
      exact hz'.trans (no z)
    · rw [if_neg (fun q => he ((nI_eq (by omega) (by omega)).mp q))]
      obtain ⟨z, hz'⟩ := (s_folds74 hX hW hT hk (fun (z11 : Int32) (z12 : Int32) (z13 : Int32) I14 => j_X9_folds_140 z11 z12 z13 I14) L 0 fuel 0 (by omega) (by rw [fuel_v]; omega) (Or.inl rfl)).2 hall
      exact hz'.trans (no z)
  have hok : fOk x 0 L := ⟨by omega, by omega, hall, hs⟩
  by_cases he : L = τ (8 + k)
  · rw [if_pos (show nI L = nI (τ (8 + k)) by rw [← he])]
    have hh := (s_folds74 hX hW hT hk (fun (z11 : Int32) (z12 : Int32) (z13 : Int32) I14 => j_X9_folds_140 z11 z12 z13 I14) L 0 fuel 1 (by omega) (by rw [fuel_v]; omega) (Or.inr ⟨rfl, he⟩)).1 hall
    refine ⟨fun q => ?_, fun q => ?_⟩
    · exact (hh.1 ⟨rfl, (Classical.not_not.mp (fun h => q ⟨hok, h⟩)).2⟩).trans one
    · exact hh.2 (fun h => q.2 ⟨he, h.2⟩)
  · rw [if_neg (fun q => he ((nI_eq (by omega) (by omega)).mp q))]
    have hh := (s_folds74 hX hW hT hk (fun (z11 : Int32) (z12 : Int32) (z13 : Int32) I14 => j_X9_folds_140 z11 z12 z13 I14) L 0 fuel 0 (by omega) (by rw [fuel_v]; omega) (Or.inl rfl)).1 hall
    refine ⟨fun q => absurd ⟨hok, fun h => he h.1⟩ q, fun q => ?_⟩
    exact hh.2 (fun h => absurd h.1 (by decide))
def fdT (τ : Td) (k n c : Nat) : Td := fun j => if j = 8 + k then n else if j = 12 + k then c else if 16 ≤ j then 0 else τ j
theorem fdT_n (τ : Td) (k n c : Nat) : fdT τ k n c (8 + k) = n := if_pos rfl
theorem fdT_c (τ : Td) (k n c : Nat) : fdT τ k n c (12 + k) = c := by
  unfold fdT
  rw [if_neg (by omega), if_pos rfl]
theorem fdT_o {τ : Td} {k n c j : Nat} (h1 : j ≠ 8 + k) (h2 : j ≠ 12 + k) (h : j < 16) : fdT τ k n c j = τ j := by
  unfold fdT
  rw [if_neg h1, if_neg h2, if_neg (by omega)]
theorem fdT_sp {τ : Td} {k n c j : Nat} (hk : k < 4) : fdT τ k n c (16 + j) = 0 := by
  unfold fdT
  rw [if_neg (by omega), if_neg (by omega), if_pos (by omega)]
theorem fdT_WF {τ : Td} (hW : WF τ) {k n c : Nat} (hk : k < τ 3) (hv : vld n c) : WF (fdT τ k n c) := by
  obtain ⟨w0, w1, w2, w3, w4, w5⟩ := hW
  unfold WF
  rw [fdT_o (show 0 ≠ 8 + k by omega) (by omega) (by decide), fdT_o (show 1 ≠ 8 + k by omega) (by omega) (by decide), fdT_o (show 2 ≠ 8 + k by omega) (by omega) (by decide), fdT_o (show 3 ≠ 8 + k by omega) (by omega) (by decide)]
  refine ⟨w0, w1, w2, w3, fun i hi => ?_, fun j hj => by rw [fdT_sp (by omega)]; omega⟩
  rw [fdT_o (show 4 + i ≠ 8 + k by omega) (by omega) (by omega)]
  by_cases e : i = k
  · rw [e, fdT_n, fdT_c]
    exact ⟨(w4 k hk).1, hv⟩
  · rw [fdT_o (show 8 + i ≠ 8 + k by omega) (by omega) (by omega), fdT_o (show 12 + i ≠ 8 + k by omega) (by omega) (by omega)]
    exact w4 i hi
theorem fdT_TM {g : Nat → Int32} {τ : Td} (hW : WF τ) (hT : TM g τ) {k n : Nat} {x : Nat → Nat} (hk : k < τ 3) (hn : n ≤ 4) (hF : ∀ i, i < n → isF (x i)) : TM (fun j => if 28 ≤ j ∧ j < 28 + 104 then 0 else if 8 + 5 * k + 1 ≤ j ∧ j < 8 + 5 * k + 1 + 4 then (if n ≤ j - (8 + 5 * k + 1) then 0 else nI (x (j - (8 + 5 * k + 1)))) else if j = 8 + 5 * k then nI n else g j) (fdT τ k n (cdN x 0 n)) := by
  have hS := hW.four
  generalize hG : (fun j => if 28 ≤ j ∧ j < 28 + 104 then (0 : Int32) else if 8 + 5 * k + 1 ≤ j ∧ j < 8 + 5 * k + 1 + 4 then (if n ≤ j - (8 + 5 * k + 1) then 0 else nI (x (j - (8 + 5 * k + 1)))) else if j = 8 + 5 * k then nI n else g j) = G
  have lo : ∀ j, j < 28 → ¬ (8 + 5 * k ≤ j ∧ j < 8 + 5 * k + 5) → G j = g j := by
    intro j h1 h2
    rw [← hG]
    show (if 28 ≤ j ∧ j < 28 + 104 then (0 : Int32) else if 8 + 5 * k + 1 ≤ j ∧ j < 8 + 5 * k + 1 + 4 then (if n ≤ j - (8 + 5 * k + 1) then 0 else nI (x (j - (8 + 5 * k + 1)))) else if j = 8 + 5 * k then nI n else g j) = g j
    rw [if_neg (by omega), if_neg (by omega), if_neg (by omega)]
  unfold TM
  rw [fdT_o (show 3 ≠ 8 + k by omega) (by omega) (by decide)]
  refine ⟨fun i hi => ?_, fun i hi => ?_, fun j hj => ?_, fun j hj => ?_⟩
  · rw [lo i (by omega) (by omega), fdT_o (by omega) (by omega) (by omega)]
    exact hT.1 i hi
  · obtain ⟨t1, t2, t3⟩ := hT.2.1 i hi
    have h4 := hS.2 i hi
    rw [lo (4 + i) (by omega) (by omega), fdT_o (show 4 + i ≠ 8 + k by omega) (by omega) (by omega)]
    refine ⟨t1, ?_⟩
    by_cases e : i = k
    · subst e
      rw [fdT_n, fdT_c]
      constructor
      · rw [← hG]
        show (if 28 ≤ 8 + 5 * i ∧ 8 + 5 * i < 28 + 104 then (0 : Int32) else if 8 + 5 * i + 1 ≤ 8 + 5 * i ∧ 8 + 5 * i < 8 + 5 * i + 1 + 4 then (if n ≤ 8 + 5 * i - (8 + 5 * i + 1) then 0 else nI (x (8 + 5 * i - (8 + 5 * i + 1)))) else if 8 + 5 * i = 8 + 5 * i then nI n else g (8 + 5 * i)) = nI n
        rw [if_neg (by omega), if_neg (by omega), if_pos rfl]
      · intro j hj
        rw [cdN_fig hj, Nat.zero_add, letN_fx (hF j hj), ← hG]
        show (if 28 ≤ 8 + 5 * i + 1 + j ∧ 8 + 5 * i + 1 + j < 28 + 104 then (0 : Int32) else if 8 + 5 * i + 1 ≤ 8 + 5 * i + 1 + j ∧ 8 + 5 * i + 1 + j < 8 + 5 * i + 1 + 4 then (if n ≤ 8 + 5 * i + 1 + j - (8 + 5 * i + 1) then 0 else nI (x (8 + 5 * i + 1 + j - (8 + 5 * i + 1)))) else if 8 + 5 * i + 1 + j = 8 + 5 * i then nI n else g (8 + 5 * i + 1 + j)) = nI (x j)
        rw [if_neg (by omega), if_pos (by omega), Nat.add_sub_cancel_left, if_neg (by omega)]
    · rw [fdT_o (show 8 + i ≠ 8 + k by omega) (by omega) (by omega), fdT_o (show 12 + i ≠ 8 + k by omega) (by omega) (by omega), lo (8 + 5 * i) (by omega) (by omega)]
      refine ⟨t2, fun j hj => ?_⟩
      rw [lo _ (by omega) (by omega)]
      exact t3 j hj
  · rw [fdT_sp (by omega), ← hG]
    exact if_pos (by omega)
  · rw [← hG]
    exact if_pos (by omega)
theorem s_folds173 {M : Mem} {L : Nat} {x : Nat → Nat} (hX : TXm M L x) {k : Nat} (hk : k < 4) (K : Mem → Option (Int32 × Mem)) : l_X9_folds_173 K fuel (nI k) 0 M = K (fio M 91 (8 + 5 * k + 1) (fun i => if L ≤ i then 0 else nI (x i)) 4) := by
  refine fio_loop (fun f y M => l_X9_folds_173 K f (nI k) y M) K 91 (8 + 5 * k + 1) 4 (fun i => if L ≤ i then 0 else nI (x i)) M ?_ ?_ fuel (by rw [fuel_v]; decide)
  · intro f i hi
    show l_X9_folds_173 K (f + 1) (nI k) (nI i) _ = l_X9_folds_173 K f (nI k) (nI (i + 1)) _
    rw [u_X9_folds_173]
    unfold b_X9_folds_173
    rw [if_neg (show ¬ (4 : Int32) ≤ nI i from nI_ge hi (by decide)), fio_row (show 89 ≠ 91 by decide), hX.1, idx5, ck_t (inb_n (show 8 + 5 * k + 1 + i < 132 by omega) (by decide)), ck_t (inb_n (show i < 200 by omega) (by decide)), ck_t (inb_n (show 8 + 5 * k + 1 + i < 132 by omega) (by decide)), nI_tn (by omega), nI_tn (by omega), fio_row (show 90 ≠ 91 by decide), nI_1]
    have h200 := hX.2.1
    by_cases h : L ≤ i
    · rw [if_pos (nI_le h (by omega)), if_pos h]
    · rw [if_neg (nI_ge (by omega) (by omega)), if_neg h, (hX.2.2 i (by omega)).1]
  · intro f
    show l_X9_folds_173 K (f + 1) (nI k) (nI 4) _ = _
    rw [u_X9_folds_173]
    unfold b_X9_folds_173
    rw [if_pos (by decide)]
/-- folds(k) -/
theorem q_folds {I : Mem} {L : Nat} {x : Nat → Nat} {τ : Td} {d : Nat} {us : Nat → Td} (hC : IC I L x τ d us) (hM : IM I L x τ d us) (y : Int32) : Sm (f_X8_folds y) (f_X9_folds y) I := by
  have hW := hC.wf
  have hS := hW.2.2.2.1.2
  have hu := hC.2.2.2.2.1
  rcases arg_cases y (τ 3) with ⟨k, hk, -, rfl⟩ | hy
  rotate_left 1
  · refine Sm_q hC hM (v := -1) ?_ ⟨I, ?_, MF.refl I⟩
    · unfold f_X8_folds
      rw [s_sch8_no hW hC.told hy, bI_some, if00]
    · unfold f_X9_folds
      rw [s_sch9_no hW hM.told hy, bI_some, if00]
  have hck : ∀ {α : Type} (z : Option α), ck (inb (nI k) 4) z = z := fun z => ck_t (inb_n (show k < 4 by omega) (by decide))
  have hTx : TXT I L x := hC.1
  have h200 := hTx.2.1
  obtain ⟨t1, t2, t3⟩ := hC.told.2.2.1 k hk
  obtain ⟨vn, vn1, vc⟩ := vld_n (hW.2.2.2.2.1 k hk).2
  have hvk := (hW.2.2.2.2.1 k hk).2
  have hfi := s_foldsIn hTx (b := 0) (e := L) (Nat.zero_le _) (Nat.le_refl _)
  have h9 := s_folds9 (hM.tx9 hC) hW hM.told hk
  have hcode : fOk x 0 L → ((L = τ (8 + k) ∧ smK x L τ k 0) ↔ (L = τ (8 + k) ∧ cdN x 0 L = τ (12 + k))) := by
    intro hok
    constructor
    · rintro ⟨e1, e2⟩
      refine ⟨e1, cdN_of (by rw [e1]; exact hvk.2.2.1) (fun i hi => ?_)⟩
      have := e2 i (Nat.zero_le _) hi
      rw [e1, Nat.zero_add, this, fx_letN _ (fig_lt _ _ _)]
    · rintro ⟨e1, e2⟩
      refine ⟨e1, fun j _ hj => ?_⟩
      rw [← e1, ← e2, cdN_fig hj, Nat.zero_add, letN_fx (hok.2.2.1 j (Nat.zero_le _) hj)]
  have e8 : f_X8_folds (nI k) I = bI (f_X6_foldsIn (nI 0) (nI L) I) fun r4 I3 => (if r4 < 0 then some ((-2 : Int32), I3) else (if (I3 1 1) = (I3 5 k) then (if r4 = (I3 6 k) then some ((-2 : Int32), I3) else j_X8_folds_65 (nI k) r4 I3) else j_X8_folds_65 (nI k) r4 I3)) := by
    unfold f_X8_folds
    rw [s_sch8 hW hC.told hk, bI_some, if10, hTx.1, nI_tn (by omega)]
    simp only [hck]
    rfl
  by_cases hok : fOk x 0 L
  rotate_left 1
  · refine Sm_q hC hM (v := -2) ?_ ⟨I, h9.1 (fun q => hok q.1), MF.refl I⟩
    rw [e8, hfi.2 hok, bI_some, if_pos (by decide)]
  have hcl := cdN_lt x 0 L
  have hL4 := hok.2.1
  have h256 := pow44 (show L < 5 by omega)
  have e8' : f_X8_folds (nI k) I = (if nI L = nI (τ (8 + k)) then (if nI (cdN x 0 L) = nI (τ (12 + k)) then some ((-2 : Int32), I) else j_X8_folds_65 (nI k) (nI (cdN x 0 L)) I) else j_X8_folds_65 (nI k) (nI (cdN x 0 L)) I) := by
    rw [e8, hfi.1 hok, bI_some, Nat.sub_zero, if_neg (nI_pos (by omega)), hTx.1, show I 5 k = nI (τ (8 + k)) from t1, show I 6 k = nI (τ (12 + k)) from t2]
  by_cases hsame : L = τ (8 + k) ∧ cdN x 0 L = τ (12 + k)
  · refine Sm_q hC hM (v := -2) ?_ ⟨I, h9.1 (fun q => q.2 ((hcode hok).mpr hsame)), MF.refl I⟩
    rw [e8', if_pos (by rw [← hsame.1]), if_pos (by rw [hsame.2])]
  -- a change
  have e8c : f_X8_folds (nI k) I = j_X8_folds_65 (nI k) (nI (cdN x 0 L)) I := by
    rw [e8']
    by_cases e1 : L = τ (8 + k)
    · rw [if_pos (by rw [← e1]), if_neg (fun q => hsame ⟨e1, (nI_eq (by omega) (by omega)).mp q⟩)]
    · rw [if_neg (fun q => e1 ((nI_eq (by omega) (by omega)).mp q))]
  obtain ⟨I4, κ', k1, k2, k3⟩ := keep8 hC
  have hv : vld L (cdN x 0 L) := by
    have := fOk_vld hok
    rwa [Nat.sub_zero] at this
  have hW' : WF (fdT τ k L (cdN x 0 L)) := fdT_WF hW hk hv
  have e3 : fdT τ k L (cdN x 0 L) 3 = τ 3 := fdT_o (by omega) (by omega) (by decide)
  obtain ⟨I', a1, a2, a3⟩ := chg8 (M := stm (stm I4 5 k (nI L)) 6 k (nI (cdN x 0 L))) (τ' := fdT τ k L (cdN x 0 L)) hC k2 k3 (fun r _ h h' _ => by rw [stm_row h', stm_row h]) ⟨by rw [stm_row (by decide), stm_row (by decide), k3 3 (by decide), e3]; exact hC.told.1, fun t ht => by
    rw [stm_row (by decide), stm_row (by decide), k3 4 (by decide), fdT_o (by omega) (by omega) (by omega)]; exact hC.told.2.1 t ht, fun j hj => by
    rw [e3] at hj
    obtain ⟨s1, s2, s3⟩ := hC.told.2.2.1 j hj
    rw [stm_row (show 5 ≠ 6 by decide), stm_row (show 7 ≠ 6 by decide), stm_row (show 7 ≠ 5 by decide), k3 7 (by decide), fdT_o (show 4 + j ≠ 8 + k by omega) (by omega) (by omega)]
    by_cases e : j = k
    · rw [e, stm_at, stm_at, fdT_n, fdT_c]
      exact ⟨rfl, rfl, by rw [← e]; exact s3⟩
    · rw [stm_ne e, stm_ne e, stm_row (show 6 ≠ 5 by decide), k3 5 (by decide), k3 6 (by decide), fdT_o (show 8 + j ≠ 8 + k by omega) (by omega) (by omega), fdT_o (show 12 + j ≠ 8 + k by omega) (by omega) (by omega)]
      exact ⟨s1, s2, s3⟩⟩ hW' (fun j _ => fdT_sp (by omega))
  have hM' : IM I' L x τ d us := hM.same (by rw [a3 89 (by decide)]) (by rw [a3 89 (by decide)]) (a3 90 (by decide)) (a3 91 (by decide)) (a3 92 (by decide))
  obtain ⟨J, j1, j2, j3, j4⟩ := note9 hW hu hM'
  have h9' := s_folds9 (hM'.tx9 hC) hW hM'.told hk
  generalize hM2 : stm J 91 (8 + 5 * k) (nI L) = M2
  have hX2 : TXm M2 L x := by
    obtain ⟨y1, y2, y3⟩ := hM'.tx9 hC
    refine ⟨by rw [← hM2, stm_row (by decide), j4 0 (by decide)]; exact y1, y2, fun i hi => ?_⟩
    rw [← hM2, stm_row (show 90 ≠ 91 by decide), j3 90 (by decide) (by decide)]
    exact y3 i hi
  generalize hR : whS (fio M2 91 (8 + 5 * k + 1) (fun i => if L ≤ i then 0 else nI (x i)) 4) 104 = R
  have hRr : ∀ r, r ≠ 91 → R r = J r := fun r hr => by
    rw [← hR]
    unfold whS
    rw [upR_ne hr, fio_row hr, ← hM2, stm_row hr]
  have hTR : TM (R 91) (fdT τ k L (cdN x 0 L)) := by
    have hT' := fdT_TM hW hM'.told hk hL4 (fun i hi => hok.2.2.1 i (Nat.zero_le _) hi)
    rw [← hR]
    unfold whS fio
    rw [upR_at, upR_at]
    have e91 : ∀ j, M2 91 j = if j = 8 + 5 * k then nI L else I' 91 j := fun j => by
      rw [← hM2, stm_get, j3 91 (by decide) (by decide)]
      by_cases e : j = 8 + 5 * k
      · rw [if_pos ⟨rfl, e⟩, if_pos e]
      · rw [if_neg (fun q => e q.2), if_neg e]
    have := hT'
    simp only [e91]
    exact this
  obtain ⟨r1, r2⟩ := chg9 (M := R) hM' j2 j3 j4 hRr hTR
  refine ⟨nI L, I', R, ?_, ?_, L, x, fdT τ k L (cdN x 0 L), pd d, pu d us τ, a2.same (fun r hr => r2 r (by omega)), r1⟩
  · rw [e8c]
    unfold j_X8_folds_65
    rw [k1, bV_some, hck, hck, nI_tn (by omega), k3 1 (by decide), hTx.1, a1, bV_some, a2.1.1]
  · rw [h9'.2 ⟨hok, fun q => hsame ((hcode hok).mp q)⟩]
    unfold j_X9_folds_140
    rw [if10, if00, j1, bV_some, idx5', ck_t (inb_n (show 8 + 5 * k < 132 by omega) (by decide)), nI_tn (by omega), j4 0 (by decide), hM'.1, hM2, s_folds173 hX2 (by omega)]
    rw [s_wholes, bV_some, hR, hRr 89 (by decide), j4 0 (by decide), hM'.1]
