/-! a folded sheet asked: the class -/
theorem andT : ∀ A, A < 5 → ∀ x, x < 32 → (nI x &&& (nI (2 ^ A) - 1)) = nI (x % 2 ^ A) := by decide +kernel
theorem shrT : ∀ A, A < 5 → ∀ x, x < 32 → (nI x >>> (nI A &&& 31)) = nI (x / 2 ^ A) := by decide +kernel
theorem shlT : ∀ A, A < 5 → ∀ x, x < 16 → (nI x <<< (nI A &&& 31)) = nI (x * 2 ^ A) := by decide +kernel
theorem divT : ∀ A, A < 5 → ∀ x, x < 32 → nI x / nI (2 ^ A) = nI (x / 2 ^ A) ∧ nI x - nI x / nI (2 ^ A) * nI (2 ^ A) = nI (x % 2 ^ A) := by decide +kernel
theorem xorT : ∀ p, p < 32 → (nI p ^^^ 1) + 1 = nI (beh (p + 1)) := by decide +kernel
theorem oddT : ∀ q, q < 64 → (nI q - nI q / 2 * 2 = 1 ↔ q % 2 = 1) := by decide +kernel
theorem twoT : ∀ n, n < 5 → ((2 : Int32) <<< (nI n &&& 31)) = nI (2 * 2 ^ n) := by decide +kernel
theorem behT : ∀ q, q < 40 → 1 ≤ q → 1 ≤ beh q ∧ beh (beh q) = q ∧ (beh q - 1) / 2 = (q - 1) / 2 ∧ beh q ≤ q + 1 ∧ (q % 2 = 1 → nI q + 1 = nI (beh q)) ∧ (¬ q % 2 = 1 → nI q - 1 = nI (beh q)) := by decide +kernel
theorem pow32 {n : Nat} (h : n < 5) : 2 * 2 ^ n ≤ 32 := by have := pow4 h; omega
theorem vld_n {n c : Nat} (h : vld n c) : n < 5 ∧ 1 ≤ n ∧ c < 256 := ⟨by have := h.2.1; omega, h.1, Nat.lt_of_lt_of_le h.2.2.1 (Nat.pow_le_pow_right (by decide) h.2.1)⟩
theorem s_behind {q : Nat} (h1 : 1 ≤ q) (h : q < 40) (I : Mem) : f_X5_behind (nI q) I = some (nI (beh q), I) := by
  unfold f_X5_behind
  obtain ⟨-, -, -, -, a, b⟩ := behT q h h1
  by_cases ho : q % 2 = 1
  · rw [if_pos ((oddT q (by omega)).mpr ho), a ho]
  · rw [if_neg (fun e => ho ((oddT q (by omega)).mp e)), b ho]
theorem beh_le {n q : Nat} (hn : n < 5) (h1 : 1 ≤ q) (h : q ≤ 2 * 2 ^ n) : beh q ≤ 2 * 2 ^ n := by
  unfold beh
  by_cases ho : q % 2 = 1
  · rw [if_pos ho]; omega
  · rw [if_neg ho]; omega
theorem ce_half {n c p p' : Nat} (h : p / 2 = p' / 2) : ceI n c p = ceI n c p' := by unfold ceI; rw [h]
/-- the cell of page q is the only one with it on its front or its back -/
theorem cell_unique {n c q i x : Nat} (hv : vld n c) (hq1 : 1 ≤ q) (hq : q ≤ 2 * 2 ^ n) (hi : i < 2 ^ n) (hx : ceI n c (q - 1) = nI x) (hx2 : x < 2 ^ n) (h : frI n c i = nI q ∨ frI n c i = nI (beh q)) : i = x := by
  obtain ⟨hn, -, -⟩ := vld_n hv
  have h16 := pow4 hn
  obtain ⟨q', a1, a2, a3, a4⟩ := G2 hv hi
  obtain ⟨b1, b2, b3, b4, -, -⟩ := behT q (by omega) hq1
  have hq' : q' = q ∨ q' = beh q := by
    rcases h with h | h
    · exact Or.inl ((nI_eq (by omega) (by omega)).mp (a3.symm.trans h))
    · exact Or.inr ((nI_eq (by omega) (by omega)).mp (a3.symm.trans h))
  have e : ceI n c (q' - 1) = ceI n c (q - 1) := by
    rcases hq' with rfl | rfl
    · rfl
    · exact ce_half b3
  have := a4.symm.trans (e.trans hx)
  exact (nI_eq (by omega) (by omega)).mp this
theorem s_cellOf {I : Mem} {a n c q x : Nat} (hv : vld n c) (hS : SH I a n c) (hq1 : 1 ≤ q) (hq : q ≤ 2 * 2 ^ n) (hx2 : x < 2 ^ n) (hx : ceI n c (q - 1) = nI x) (hf : frI n c x = nI q ∨ frI n c x = nI (beh q)) : f_X5_cellOf a (nI q) I = some (nI x, I) := by
  obtain ⟨hn, -, -⟩ := vld_n hv
  have h16 := pow4 hn
  have hA := acU_le n c n
  have hlv : f_X5_leaves a I = some (nI (2 ^ n), I) := s_leaves hn hA hS.1 hS.2.1
  obtain ⟨b1, b2, b3, b4, -, -⟩ := behT q (by omega) hq1
  unfold f_X5_cellOf
  refine iter_loop (fun f y M => l_X5_cellOf_2 _ _ f a (nI q) y M) (some (nI x, I)) 0 x (fun _ => I) (Nat.zero_le _) ?_ ?_ fuel (by rw [fuel_v]; omega)
  · intro f i _ hi
    have hne := fun h => Nat.ne_of_lt hi (cell_unique hv hq1 hq (show i < 2 ^ n by omega) hx hx2 h)
    have e1 := (hS.2.2.2 i (by omega)).1
    show l_X5_cellOf_2 _ _ (f + 1) a (nI q) (nI i) I = l_X5_cellOf_2 _ _ f a (nI q) (nI (i + 1)) I
    rw [u_X5_cellOf_2]
    unfold b_X5_cellOf_2
    rw [hlv, bI_some, if_neg (nI_ge (show i < 2 ^ n by omega) (by omega)), ck_t (inb_n (by omega) (by decide)), nI_tn (by omega), e1, if_neg (fun h => hne (Or.inl h)), ck_t (inb_n (by omega) (by decide)), s_behind hq1 (by omega), bI_some, if_neg (fun h => hne (Or.inr h)), nI_1]
  · intro f
    have e1 := (hS.2.2.2 x hx2).1
    show l_X5_cellOf_2 _ _ (f + 1) a (nI q) (nI x) I = _
    rw [u_X5_cellOf_2]
    unfold b_X5_cellOf_2
    rw [hlv, bI_some, if_neg (nI_ge hx2 (by omega)), ck_t (inb_n (by omega) (by decide)), nI_tn (by omega), e1]
    by_cases hq3 : frI n c x = nI q
    · rw [if_pos hq3]
    · rw [if_neg hq3, ck_t (inb_n (by omega) (by decide)), s_behind hq1 (by omega), bI_some, if_pos (hf.resolve_left hq3)]
/-- what is told of page q of a sheet: cell x, side s, the way up u -/
def PG (n c q x s u : Nat) : Prop := x < 2 ^ n ∧ s ≤ 1 ∧ u ≤ 1 ∧ ceI n c (q - 1) = nI x ∧ siI n c (q - 1) = nI s ∧ tuI n c (q - 1) = nI u ∧ ovI n c x = nI u ∧ frI n c x = nI (if s = 0 then q else beh q)
theorem PG_ex {n c q : Nat} (hv : vld n c) (hq1 : 1 ≤ q) (hq : q ≤ 2 * 2 ^ n) : ∃ x s u, PG n c q x s u := by
  obtain ⟨x, h1, h2, h3, h4, h5⟩ := G1 (p := q - 1) hv (by omega)
  rw [show q - 1 + 1 = q by omega] at h4
  rcases h5 with h5 | h5 <;> rcases h4 with ⟨h4, h6⟩ | ⟨h4, h6⟩
  · exact ⟨x, 0, 0, h1, by omega, by omega, h2, h4, h5, by rw [← h3, h5]; rfl, h6⟩
  · exact ⟨x, 1, 0, h1, by omega, by omega, h2, h4, h5, by rw [← h3, h5]; rfl, h6⟩
  · exact ⟨x, 0, 1, h1, by omega, by omega, h2, h4, h5, by rw [← h3, h5]; rfl, h6⟩
  · exact ⟨x, 1, 1, h1, by omega, by omega, h2, h4, h5, by rw [← h3, h5]; rfl, h6⟩
theorem PG.cell {I : Mem} {a n c q x s u : Nat} (h : PG n c q x s u) (hv : vld n c) (hS : SH I a n c) (hq1 : 1 ≤ q) (hq : q ≤ 2 * 2 ^ n) : f_X5_cellOf a (nI q) I = some (nI x, I) := by
  refine s_cellOf hv hS hq1 hq h.1 h.2.2.2.1 ?_
  have := h.2.2.2.2.2.2.2
  by_cases hs : s = 0
  · rw [if_pos hs] at this; exact Or.inl this
  · rw [if_neg hs] at this; exact Or.inr this
theorem beh_ne (q : Nat) (h : 1 ≤ q) : beh q ≠ q := by unfold beh; by_cases h : q % 2 = 1 <;> simp [h] <;> omega
theorem s_sideOf {I : Mem} {a n c q x s u : Nat} (h : PG n c q x s u) (hv : vld n c) (hS : SH I a n c) (hq1 : 1 ≤ q) (hq : q ≤ 2 * 2 ^ n) : f_X5_sideOf a (nI q) I = some (nI s, I) := by
  obtain ⟨hn, -, -⟩ := vld_n hv
  have h16 := pow4 hn
  obtain ⟨b1, b2, b3, b4, -, -⟩ := behT q (by omega) hq1
  unfold f_X5_sideOf
  have hx := h.1
  rw [h.cell hv hS hq1 hq, bI_some, ck_t (inb_n (show x < 16 by omega) (by decide)), nI_tn (by omega), (hS.2.2.2 x hx).1, h.2.2.2.2.2.2.2]
  have hs1 := h.2.1
  by_cases hs : s = 0
  · rw [if_pos hs, if_pos rfl, hs]; rfl
  · rw [if_neg hs, if_neg (fun e => beh_ne q hq1 ((nI_eq (by omega) (by omega)).mp e)), show s = 1 by omega]; rfl
theorem s_columnOf {I : Mem} {a n c q x s u : Nat} (h : PG n c q x s u) (hv : vld n c) (hS : SH I a n c) (hq1 : 1 ≤ q) (hq : q ≤ 2 * 2 ^ n) : f_X5_columnOf a (nI q) I = some (nI (x % 2 ^ acU n c n), I) := by
  obtain ⟨hn, -, -⟩ := vld_n hv
  have h16 := pow4 hn
  have hx := h.1
  have hA := acU_le n c n
  unfold f_X5_columnOf f_X5_columnAt
  rw [h.cell hv hS hq1 hq, bI_some, hS.1, andT _ (by omega) x (by omega), bI_some]
theorem s_rowOf {I : Mem} {a n c q x s u : Nat} (h : PG n c q x s u) (hv : vld n c) (hS : SH I a n c) (hq1 : 1 ≤ q) (hq : q ≤ 2 * 2 ^ n) : f_X5_rowOf a (nI q) I = some (nI (x / 2 ^ acU n c n), I) := by
  obtain ⟨hn, -, -⟩ := vld_n hv
  have h16 := pow4 hn
  have hx := h.1
  have hA := acU_le n c n
  unfold f_X5_rowOf f_X5_rowAt
  rw [h.cell hv hS hq1 hq, bI_some, hS.2.2.1, shrT _ (by omega) x (by omega), bI_some]
theorem s_isOver {I : Mem} {a n c q x s u : Nat} (h : PG n c q x s u) (hv : vld n c) (hS : SH I a n c) (hq1 : 1 ≤ q) (hq : q ≤ 2 * 2 ^ n) : f_X5_isOverturned a (nI q) I = some (nI u, I) := by
  obtain ⟨hn, -, -⟩ := vld_n hv
  have h16 := pow4 hn
  have hx := h.1
  unfold f_X5_isOverturned
  rw [h.cell hv hS hq1 hq, bI_some, ck_t (inb_n (show x < 16 by omega) (by decide)), nI_tn (by omega), (hS.2.2.2 x hx).2, h.2.2.2.2.2.2.1]
/-- the cells that there are -/
def inC (n c : Nat) (x y : Int32) : Prop := 0 ≤ x.toInt ∧ x.toInt < 2 ^ acU n c n ∧ 0 ≤ y.toInt ∧ y.toInt < 2 ^ (n - acU n c n)
theorem s_hasCell {I : Mem} {a n c : Nat} (hv : vld n c) (hS : SH I a n c) (x y : Int32) : (inC n c x y → f_X5_hasCell a x y I = some (1, I)) ∧ (¬ inC n c x y → f_X5_hasCell a x y I = some (0, I)) := by
  obtain ⟨hn, -, -⟩ := vld_n hv
  have h16 := pow4 hn
  have hA := acU_le n c n
  have e1 : (nI (2 ^ acU n c n)).toInt = ((2 ^ acU n c n : Nat) : Int) := nI_toInt (by have := pow4 (show acU n c n < 5 by omega); omega)
  have e2 : (nI (2 ^ (n - acU n c n))).toInt = ((2 ^ (n - acU n c n) : Nat) : Int) := nI_toInt (by have := pow4 (show n - acU n c n < 5 by omega); omega)
  have c1 : ((2 ^ acU n c n : Nat) : Int) = (2 : Int) ^ acU n c n := by push_cast; rfl
  have c2 : ((2 ^ (n - acU n c n) : Nat) : Int) = (2 : Int) ^ (n - acU n c n) := by push_cast; rfl
  rw [c1] at e1
  rw [c2] at e2
  unfold f_X5_hasCell inC
  rw [hS.1, hS.2.1]
  have z0 : (0 : Int32).toInt = 0 := by decide
  constructor
  · rintro ⟨h1, h2, h3, h4⟩
    rw [if_neg (fun q => by have := lt_T.mp q; omega), if_neg (fun q => by have := le_T.mp q; omega), if_neg (fun q => by have := lt_T.mp q; omega), if_neg (fun q => by have := le_T.mp q; omega)]
  · intro h
    by_cases g1 : x < 0
    · rw [if_pos g1]
    rw [if_neg g1]
    by_cases g2 : nI (2 ^ acU n c n) ≤ x
    · rw [if_pos g2]
    rw [if_neg g2]
    by_cases g3 : y < 0
    · rw [if_pos g3]
    rw [if_neg g3]
    by_cases g4 : nI (2 ^ (n - acU n c n)) ≤ y
    · rw [if_pos g4]
    exfalso
    have k1 : ¬ x.toInt < 0 := fun q => g1 (lt_T.mpr (by omega))
    have k2 : ¬ (2 : Int) ^ acU n c n ≤ x.toInt := fun q => g2 (le_T.mpr (by omega))
    have k3 : ¬ y.toInt < 0 := fun q => g3 (lt_T.mpr (by omega))
    have k4 : ¬ (2 : Int) ^ (n - acU n c n) ≤ y.toInt := fun q => g4 (le_T.mpr (by omega))
    exact h ⟨by omega, by omega, by omega, by omega⟩
theorem cell_lt {n A x y : Nat} (hA : A ≤ n) (hx : x < 2 ^ A) (hy : y < 2 ^ (n - A)) : y * 2 ^ A + x < 2 ^ n := by
  have h1 : (y + 1) * 2 ^ A ≤ 2 ^ (n - A) * 2 ^ A := Nat.mul_le_mul_right _ hy
  rw [← Nat.pow_add, show n - A + A = n by omega, Nat.add_mul, Nat.one_mul] at h1
  omega
/-- the page on a side of a cell -/
theorem s_pageOn {I : Mem} {a n c s x y q : Nat} (hv : vld n c) (hS : SH I a n c) (hs : s ≤ 1) (hx : x < 2 ^ acU n c n) (hy : y < 2 ^ (n - acU n c n)) (hq : frI n c (y * 2 ^ acU n c n + x) = nI q) (hq1 : 1 ≤ q) (hq2 : q ≤ 2 * 2 ^ n) : f_X5_pageOn a (nI s) (nI x) (nI y) I = some (nI (if s = 0 then q else beh q), I) := by
  obtain ⟨hn, -, -⟩ := vld_n hv
  have h16 := pow4 hn
  have hA := acU_le n c n
  have hcl := cell_lt hA hx hy
  have hy16 : y < 16 := by have := pow4 (show n - acU n c n < 5 by omega); omega
  unfold f_X5_pageOn f_X5_cellAt
  rw [hS.2.2.1, shlT _ (by omega) y hy16, nI_add, bI_some, ck_t (inb_n (show y * 2 ^ acU n c n + x < 16 by omega) (by decide)), nI_tn (by omega), (hS.2.2.2 _ hcl).1, hq]
  by_cases h0 : s = 0
  · rw [if_pos (show nI s = 0 by rw [h0]; rfl), if_pos h0]
  · rw [if_neg (show ¬ nI s = 0 from nI_ne0 (by omega) (by omega)), if_neg h0, s_behind hq1 (by omega), bI_some]
