/-! a folded sheet asked: sums, the reference -/
def sOv (n c : Nat) : Nat → Int32
  | 0 => 0
  | k + 1 => sOv n c k + ovI n c k
def sTu (n c s : Nat) : Nat → Int32
  | 0 => 0
  | k + 1 => sTu n c s k + (if siI n c k = nI s then tuI n c k else 0)
def ckT (n lo hi : Nat) : Bool := (List.range (hi - lo)).all fun d => !(vldB n (lo + d)) || (sOv n (lo + d) (2 ^ n) == sTu n (lo + d) 0 (2 * 2 ^ n) && sOv n (lo + d) (2 ^ n) == sTu n (lo + d) 1 (2 * 2 ^ n))
theorem ckT1 : ckT 1 0 256 = true := by decide +kernel
theorem ckT2 : ckT 2 0 256 = true := by decide +kernel
theorem ckT3 : ckT 3 0 256 = true := by decide +kernel
theorem ckT4_0 : ckT 4 0 64 = true := by decide +kernel
theorem ckT4_1 : ckT 4 64 128 = true := by decide +kernel
theorem ckT4_2 : ckT 4 128 192 = true := by decide +kernel
theorem ckT4_3 : ckT 4 192 256 = true := by decide +kernel
theorem ckT_of {n lo hi c : Nat} (h : ckT n lo hi = true) (h1 : lo ≤ c) (h2 : c < hi) (hv : vldB n c = true) : ∀ s, s ≤ 1 → sOv n c (2 ^ n) = sTu n c s (2 * 2 ^ n) := by
  have h3 := List.all_eq_true.mp h (c - lo) (List.mem_range.mpr (by omega))
  rw [show lo + (c - lo) = c by omega, hv] at h3
  simp only [Bool.not_true, Bool.false_or, Bool.and_eq_true, beq_iff_eq] at h3
  intro s hs
  match s, hs with
  | 0, _ => exact h3.1
  | 1, _ => exact h3.2
theorem turn_same {n c : Nat} (hv : vld n c) : ∀ s, s ≤ 1 → sOv n c (2 ^ n) = sTu n c s (2 * 2 ^ n) := by
  obtain ⟨h1, h4, hc, hl⟩ := hv
  have hb : vldB n c = true := by
    unfold vldB
    rw [Bool.and_eq_true, decide_eq_true_eq, Bool.or_eq_true, beq_iff_eq, beq_iff_eq]
    exact ⟨hc, hl⟩
  have hc256 : c < 256 := Nat.lt_of_lt_of_le hc (Nat.pow_le_pow_right (by decide) h4)
  match n, h1, h4 with
  | 1, _, _ => exact ckT_of ckT1 (Nat.zero_le _) hc256 hb
  | 2, _, _ => exact ckT_of ckT2 (Nat.zero_le _) hc256 hb
  | 3, _, _ => exact ckT_of ckT3 (Nat.zero_le _) hc256 hb
  | 4, _, _ =>
    rcases Nat.lt_or_ge c 64 with h | h
    · exact ckT_of ckT4_0 (Nat.zero_le _) h hb
    rcases Nat.lt_or_ge c 128 with h5 | h5
    · exact ckT_of ckT4_1 h h5 hb
    rcases Nat.lt_or_ge c 192 with h6 | h6
    · exact ckT_of ckT4_2 h5 h6 hb
    · exact ckT_of ckT4_3 h6 hc256 hb
theorem s_overturned {I : Mem} {a n c : Nat} (hv : vld n c) (hS : SH I a n c) : f_X5_overturnedLeaves a I = some (sOv n c (2 ^ n), I) := by
  obtain ⟨hn, -, -⟩ := vld_n hv
  have h16 := pow4 hn
  have hA := acU_le n c n
  have hlv : f_X5_leaves a I = some (nI (2 ^ n), I) := s_leaves hn hA hS.1 hS.2.1
  unfold f_X5_overturnedLeaves
  refine iter_loop (fun f y (t : Int32) => l_X5_overturnedLeaves_4 _ f a t y I) (some (sOv n c (2 ^ n), I)) 0 (2 ^ n) (sOv n c) (Nat.zero_le _) ?_ ?_ fuel (by rw [fuel_v]; omega)
  · intro f i _ hi
    show l_X5_overturnedLeaves_4 _ (f + 1) a (sOv n c i) (nI i) I = l_X5_overturnedLeaves_4 _ f a (sOv n c (i + 1)) (nI (i + 1)) I
    rw [u_X5_overturnedLeaves_4]
    unfold b_X5_overturnedLeaves_4
    rw [hlv, bI_some, if_neg (nI_ge hi (by omega)), ck_t (inb_n (by omega) (by decide)), nI_tn (by omega), (hS.2.2.2 i hi).2, nI_1]
    rfl
  · intro f
    show l_X5_overturnedLeaves_4 _ (f + 1) a (sOv n c (2 ^ n)) (nI (2 ^ n)) I = _
    rw [u_X5_overturnedLeaves_4]
    unfold b_X5_overturnedLeaves_4
    rw [hlv, bI_some, if_pos (nI_le (Nat.le_refl _) (by omega))]
/-- the page of a side of a cell, in the reference -/
theorem s_pageAt {I : Mem} {n c s x q : Nat} (hv : vld n c) (hP : PM I n c) (hs : s ≤ 1) (hx : x < 2 ^ n) (hq : frI n c x = nI q) (hq1 : 1 ≤ q) (hq2 : q ≤ 2 * 2 ^ n) : f_X9_pageAt (nI s) (nI x) I = some (nI (if s = 0 then q else beh q), I) := by
  obtain ⟨hn, -, -⟩ := vld_n hv
  have h16 := pow4 hn
  obtain ⟨b1, b2, b3, b4, -, -⟩ := behT q (by omega) hq1
  have bl := beh_le hn hq1 hq2
  generalize hq' : (if s = 0 then q else beh q) = q'
  have hq'1 : 1 ≤ q' := by rw [← hq']; by_cases h : s = 0 <;> simp [h] <;> omega
  have hq'2 : q' ≤ 2 * 2 ^ n := by rw [← hq']; by_cases h : s = 0 <;> simp [h] <;> omega
  -- the page q' is there
  obtain ⟨x2, s2, u2, hG⟩ := PG_ex hv hq'1 hq'2
  have hbb : beh q' = if s = 0 then beh q else q := by rw [← hq']; by_cases h : s = 0 <;> simp [h, b2]
  have hxx : x = x2 := cell_unique hv hq'1 hq'2 hx hG.2.2.2.1 hG.1 (by
    rw [hq, hbb, ← hq']
    by_cases h : s = 0
    · rw [if_pos h]; exact Or.inl rfl
    · rw [if_neg h, if_neg h]; exact Or.inr rfl)
  subst hxx
  have bl' := beh_le hn hq'1 hq'2
  have hss : s2 = s := by
    have h8 := hG.2.2.2.2.2.2.2
    rw [hq] at h8
    have hs2 := hG.2.1
    have := (nI_eq (a := q) (by omega) (by by_cases h : s2 = 0 <;> simp [h] <;> omega)).mp h8
    by_cases h2 : s2 = 0 <;> by_cases h3 : s = 0
    · omega
    · rw [if_pos h2, ← hq', if_neg h3] at this
      exact absurd this.symm (beh_ne q hq1)
    · rw [if_neg h2, hbb, if_pos h3] at this
      exact absurd this.symm (beh_ne q hq1)
    · omega
  subst hss
  unfold f_X9_pageAt
  have key := iter_loop (fun f y (_ : Unit) => l_X9_pageAt_2 (fun (z3 : Int32) I4 => some ((z3 + (1 : Int32)), I4)) f (nI s2) (nI x) y I) (some (nI q', I)) 0 (q' - 1) (fun _ => ()) (Nat.zero_le _) ?_ ?_ fuel (by rw [fuel_v]; omega)
  · exact key
  · intro f i _ hi
    obtain ⟨e7, e8, -⟩ := hP.2 i (by omega)
    show l_X9_pageAt_2 _ (f + 1) (nI s2) (nI x) (nI i) I = l_X9_pageAt_2 _ f (nI s2) (nI x) (nI (i + 1)) I
    rw [u_X9_pageAt_2]
    unfold b_X9_pageAt_2
    rw [ck_t (inb_n (show i < 32 by omega) (by decide)), nI_tn (by omega), e7, nI_1]
    by_cases h1 : ceI n c i = nI x
    · rw [if_pos h1, ck_t (inb_n (show i < 32 by omega) (by decide)), e8, if_neg]
      intro h2
      obtain ⟨x3, s3, u3, hG3⟩ := PG_ex (q := i + 1) hv (by omega) (by omega)
      have e1 := hG3.2.2.2.1
      rw [show i + 1 - 1 = i by omega, h1] at e1
      have hx3 : x = x3 := (nI_eq (by omega) (by have := hG3.1; omega)).mp e1
      subst hx3
      have e2 := hG3.2.2.2.2.1
      rw [show i + 1 - 1 = i by omega, h2] at e2
      have hs3 : s2 = s3 := (nI_eq (by omega) (by have := hG3.2.1; omega)).mp e2
      subst hs3
      have e3 := hG3.2.2.2.2.2.2.2
      rw [hG.2.2.2.2.2.2.2] at e3
      obtain ⟨c1, c2, -⟩ := behT (i + 1) (by omega) (by omega)
      obtain ⟨d1, d2, -⟩ := behT q' (by omega) hq'1
      have bl2 := beh_le hn (q := i + 1) (by omega) (by omega)
      have bl3 := beh_le hn (q := q') (by omega) (by omega)
      by_cases h0 : s2 = 0
      · rw [if_pos h0, if_pos h0] at e3
        have := (nI_eq (by omega) (by omega)).mp e3
        omega
      · rw [if_neg h0, if_neg h0] at e3
        have := (nI_eq (by omega) (by omega)).mp e3
        have : q' = i + 1 := by rw [← d2, this, c2]
        omega
    · rw [if_neg h1]
  · intro f
    obtain ⟨e7, e8, -⟩ := hP.2 (q' - 1) (by omega)
    show l_X9_pageAt_2 _ (f + 1) (nI s2) (nI x) (nI (q' - 1)) I = _
    rw [u_X9_pageAt_2]
    unfold b_X9_pageAt_2
    rw [ck_t (inb_n (show q' - 1 < 32 by omega) (by decide)), nI_tn (by omega), e7, hG.2.2.2.1, if_pos rfl, ck_t (inb_n (show q' - 1 < 32 by omega) (by decide)), e8, hG.2.2.2.2.1, if_pos rfl]
    show some (nI (q' - 1) + 1, I) = _
    rw [nI_1, show q' - 1 + 1 = q' by omega]
theorem idx5 (k i : Nat) : (8 : Int32) + (5 : Int32) * nI k + 1 + nI i = nI (8 + 5 * k + 1 + i) := by
  rw [show (5 : Int32) * nI k = nI (5 * k) from nI_mul 5 k, show (8 : Int32) + nI (5 * k) = nI (8 + 5 * k) from nI_add 8 _, nI_1, nI_add]
theorem idx5' (k : Nat) : (8 : Int32) + (5 : Int32) * nI k = nI (8 + 5 * k) := by
  rw [show (5 : Int32) * nI k = nI (5 * k) from nI_mul 5 k]
  exact nI_add 8 _
/-- the reference folds a sheet of scheme k -/
theorem s_lays {I : Mem} {τ : Td} {k : Nat} (hW : WF τ) (hT : TM (I 91) τ) (hk : k < τ 3) : ∃ I', f_X9_lays (nI k) I = some I' ∧ PM I' (τ (8 + k)) (τ (12 + k)) ∧ I' 89 8 = nI (τ (8 + k)) ∧ (∀ r, r ≠ 89 → r ≠ 94 → r ≠ 95 → r ≠ 96 → r ≠ 97 → r ≠ 98 → r ≠ 99 → I' r = I r) ∧ ∀ j, j ≠ 8 → j ≠ 11 → j ≠ 12 → j ≠ 16 → I' 89 j = I 89 j := by
  have hS := hW.2.2.2.1.2
  have hv := (hW.2.2.2.2.1 k hk).2
  obtain ⟨hn, hn1, -⟩ := vld_n hv
  obtain ⟨-, t2, t3⟩ := hT.2.1 k hk
  generalize τ (8 + k) = n at *
  generalize τ (12 + k) = c at *
  unfold f_X9_lays
  rw [idx5', ck_t (inb_n (show 8 + 5 * k < 132 by omega) (by decide)), nI_tn (by omega), t2]
  generalize hM : stm I 89 8 (nI n) = M
  have m91 : M 91 = I 91 := by rw [← hM]; exact stm_row (by decide)
  have m8 : M 89 8 = nI n := by rw [← hM]; exact stm_at _ _ _ _
  have loop : ∀ K52 : Mem → Option Mem, l_X9_lays_17 K52 fuel (nI k) 0 M = K52 (fil M 94 (fun i => M 91 (8 + 5 * k + 1 + i)) n) := by
    intro K52
    refine fill_loop (fun f x M => l_X9_lays_17 K52 f (nI k) x M) K52 94 n (fun i => M 91 (8 + 5 * k + 1 + i)) M ?_ ?_ fuel (by rw [fuel_v]; omega)
    · intro f i hi
      show l_X9_lays_17 K52 (f + 1) (nI k) (nI i) _ = l_X9_lays_17 K52 f (nI k) (nI (i + 1)) _
      rw [u_X9_lays_17]
      unfold b_X9_lays_17
      rw [fil_row (show (89 : Nat) ≠ 94 by decide), m8, if_neg (nI_ge hi (by omega)), idx5, ck_t (inb_n (show 8 + 5 * k + 1 + i < 132 by omega) (by decide)), ck_t (inb_n (show i < 4 by omega) (by decide)), nI_tn (by omega), nI_tn (by omega), nI_1, fil_row (show (91 : Nat) ≠ 94 by decide)]
    · intro f
      show l_X9_lays_17 K52 (f + 1) (nI k) (nI n) _ = _
      rw [u_X9_lays_17]
      unfold b_X9_lays_17
      rw [fil_row (show (89 : Nat) ≠ 94 by decide), m8, if_pos (nI_le (Nat.le_refl _) (by omega))]
  rw [loop]
  obtain ⟨I', a1, a2, a3, a4⟩ := s_foldAll hv (fil M 94 (fun i => M 91 (8 + 5 * k + 1 + i)) n) ⟨by rw [fil_row (by decide)]; exact m8, fun i hi => by rw [fil_lt hi, m91]; exact t3 i hi⟩
  rw [a1, bV_some]
  refine ⟨I', rfl, a2, ?_, fun r h1 h2 h3 h4 h5 h6 h7 => ?_, fun j h1 h2 h3 h4 => ?_⟩
  · rw [a4 8 (by decide) (by decide) (by decide), fil_row (by decide)]; exact m8
  · rw [a3 r h1 h3 h4 h5 h6 h7, fil_row h2, ← hM, stm_row h1]
  · rw [a4 j h2 h3 h4, fil_row (by decide), ← hM, stm_ne h1]
theorem s_pagesOf9 {I : Mem} {τ : Td} {k : Nat} (hW : WF τ) (hT : TM (I 91) τ) (hk : k < τ 3) : f_X9_pagesOf (nI k) I = some (nI (2 * 2 ^ τ (8 + k)), I) := by
  have hS := hW.2.2.2.1.2
  obtain ⟨hn, hn1, -⟩ := vld_n (hW.2.2.2.2.1 k hk).2
  obtain ⟨-, t2, t3⟩ := hT.2.1 k hk
  unfold f_X9_pagesOf
  rw [idx5', ck_t (inb_n (show 8 + 5 * k < 132 by omega) (by decide)), nI_tn (by omega), t2, twoT _ hn]
theorem s_pagesOf7 {I : Mem} {τ : Td} {k : Nat} (hW : WF τ) (hT : TX I 3 τ) (hk : k < τ 3) : f_X7_pagesOf (nI k) I = some (nI (2 * 2 ^ τ (8 + k)), I) := by
  have hS := hW.2.2.2.1.2
  obtain ⟨hn, hn1, -⟩ := vld_n (hW.2.2.2.2.1 k hk).2
  obtain ⟨t1, t2, t3⟩ := hT.2.2.1 k hk
  unfold f_X7_pagesOf
  rw [ck_t (inb_n (show k < 4 by omega) (by decide)), nI_tn (by omega), t1, twoT _ hn]
theorem s_turned9 {I : Mem} {τ : Td} {k s : Nat} (hW : WF τ) (hT : TM (I 91) τ) (hk : k < τ 3) (hs : s ≤ 1) (hP : PM I (τ (8 + k)) (τ (12 + k))) : l_X9_turned_30 (fun (z10 : Int32) I11 => some (z10, I11)) fuel (nI k) (nI s) 0 0 I = some (sTu (τ (8 + k)) (τ (12 + k)) s (2 * 2 ^ τ (8 + k)), I) := by
  have hv := (hW.2.2.2.2.1 k hk).2
  obtain ⟨hn, hn1, -⟩ := vld_n hv
  have h32 := pow32 hn
  have hpg := s_pagesOf9 hW hT hk
  generalize τ (8 + k) = n at *
  generalize τ (12 + k) = c at *
  refine iter_loop (fun f y (t : Int32) => l_X9_turned_30 _ f (nI k) (nI s) t y I) (some (sTu n c s (2 * 2 ^ n), I)) 0 (2 * 2 ^ n) (sTu n c s) (Nat.zero_le _) ?_ ?_ fuel (by rw [fuel_v]; omega)
  · intro f i _ hi
    obtain ⟨-, e8, e9⟩ := hP.2 i hi
    show l_X9_turned_30 _ (f + 1) (nI k) (nI s) (sTu n c s i) (nI i) I = l_X9_turned_30 _ f (nI k) (nI s) (sTu n c s (i + 1)) (nI (i + 1)) I
    rw [u_X9_turned_30]
    unfold b_X9_turned_30
    rw [hpg, bI_some, if_neg (nI_ge hi (by omega)), ck_t (inb_n (show i < 32 by omega) (by decide)), nI_tn (by omega), e8, ck_t (inb_n (show i < 32 by omega) (by decide)), e9, nI_1]
    by_cases h : siI n c i = nI s
    · rw [if_pos h]
      show _ = l_X9_turned_30 _ f (nI k) (nI s) (sTu n c s i + (if siI n c i = nI s then tuI n c i else 0)) (nI (i + 1)) I
      rw [if_pos h]
    · rw [if_neg h]
      show _ = l_X9_turned_30 _ f (nI k) (nI s) (sTu n c s i + (if siI n c i = nI s then tuI n c i else 0)) (nI (i + 1)) I
      rw [if_neg h]
  · intro f
    show l_X9_turned_30 _ (f + 1) (nI k) (nI s) (sTu n c s (2 * 2 ^ n)) (nI (2 * 2 ^ n)) I = _
    rw [u_X9_turned_30]
    unfold b_X9_turned_30
    rw [hpg, bI_some, if_pos (nI_le (Nat.le_refl _) (by omega))]
