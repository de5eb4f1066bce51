/-- the columns and rows that are left ahead of fold i -/
def cU (n c i : Nat) : Nat := 2 ^ (acU n c n - acU n c i)
def rU (n c i : Nat) : Nat := 2 ^ ((n - acU n c n) - (i - acU n c i))
/-- the piles ahead of fold i -/
def pil (n c : Nat) : Nat → Nat → Int32
  | 0, q => nI q
  | i + 1, q => aft (fig n c i) (2 ^ i) (cU n c i) (rU n c i) (pil n c i) q
def lfM (n c i : Nat) : Int32 := if c % 4 = 2 then pil n c n i ^^^ 16 else pil n c n (2 ^ n - 1 - i)
def ceI (n c p : Nat) : Int32 := lfM n c (p / 2) &&& 15
def siI (n c p : Nat) : Int32 := ((lfM n c (p / 2) >>> ((4 : Int32) &&& 31)) &&& 1) ^^^ nI (p % 2)
def tuI (n c p : Nat) : Int32 := lfM n c (p / 2) >>> ((5 : Int32) &&& 31)
/-- a folded sheet in the reference's rows -/
def PM (I : Mem) (n c : Nat) : Prop := I 89 16 = nI (2 ^ acU n c n) ∧ ∀ p, p < 2 * 2 ^ n → I 97 p = ceI n c p ∧ I 98 p = siI n c p ∧ I 99 p = tuI n c p
/-- the folds to be done -/
def FM (I : Mem) (n c : Nat) : Prop := I 89 8 = nI n ∧ ∀ i, i < n → I 94 i = nI (letN (fig n c i))
theorem acU_mono (n c : Nat) {i j : Nat} (h : i ≤ j) : acU n c i ≤ acU n c j ∧ acU n c j ≤ acU n c i + (j - i) := by
  induction j with
  | zero => rw [show i = 0 by omega]; omega
  | succ j ih =>
    by_cases e : i = j + 1
    · rw [e]; omega
    · have := ih (by omega)
      have := acF_le (fig n c j)
      show acU n c i ≤ acU n c j + acF (fig n c j) ∧ acU n c j + acF (fig n c j) ≤ _
      omega
theorem fit_U {n c i : Nat} (hn : n < 5) (hi : i < n) : fit (fig n c i) (2 ^ i) (cU n c i) (rU n c i) ∧ nCf (fig n c i) (cU n c i) = cU n c (i + 1) ∧ nRf (fig n c i) (rU n c i) = rU n c (i + 1) ∧ 2 ^ i * (rU n c i * cU n c i) = 2 ^ n := by
  have h1 := acU_mono n c (show i + 1 ≤ n by omega)
  have h0 := acU_le n c i
  have hs : acU n c (i + 1) = acU n c i + acF (fig n c i) := rfl
  have hl := acF_le (fig n c i)
  have hN := acU_le n c n
  have hm := acU_mono n c (show i ≤ n by omega)
  have tot : 2 ^ i * (rU n c i * cU n c i) = 2 ^ n := by
    unfold rU cU
    rw [← Nat.pow_add, ← Nat.pow_add]
    congr 1
    omega
  have hp := pow4 hn
  have eC : nCf (fig n c i) (cU n c i) = cU n c (i + 1) := by
    unfold nCf cU
    by_cases h : acF (fig n c i) = 1
    · rw [if_pos h, hs, h, show acU n c n - acU n c i = (acU n c n - (acU n c i + 1)) + 1 by omega, Nat.pow_succ]
      omega
    · rw [if_neg h, hs, show acF (fig n c i) = 0 by omega, Nat.add_zero]
  have eR : nRf (fig n c i) (rU n c i) = rU n c (i + 1) := by
    unfold nRf rU
    by_cases h : acF (fig n c i) = 1
    · rw [if_pos h, hs, h]
      congr 1
      omega
    · rw [if_neg h, hs, show acF (fig n c i) = 0 by omega, show (n - acU n c n) - (i - acU n c i) = ((n - acU n c n) - (i + 1 - (acU n c i + 0))) + 1 by omega, Nat.pow_succ]
      omega
  refine ⟨⟨fig_lt n c i, Nat.pow_pos (by decide), ?_, ?_, by rw [tot]; exact hp, ?_⟩, eC, eR, tot⟩
  · rw [eC]; exact Nat.pow_pos (by decide)
  · rw [eR]; exact Nat.pow_pos (by decide)
  · by_cases h : acF (fig n c i) = 1
    · rw [if_pos h, eC]
      unfold cU
      rw [hs, h, show acU n c n - acU n c i = (acU n c n - (acU n c i + 1)) + 1 by omega, Nat.pow_succ]
      omega
    · rw [if_neg h, eR]
      unfold rU
      rw [hs, show acF (fig n c i) = 0 by omega, show (n - acU n c n) - (i - acU n c i) = ((n - acU n c n) - (i + 1 - (acU n c i + 0))) + 1 by omega, Nat.pow_succ]
      omega
theorem s_side {f : Nat} (h : f < 4) (I : Mem) : f_X9_isSide (nI (letN f)) I = some (nI (acF f), I) := by
  match f, h with
  | 0, _ => rfl
  | 1, _ => rfl
  | 2, _ => rfl
  | 3, _ => rfl
/-- the first loop: columns and rows -/
def crS (M : Mem) (n c i : Nat) : Mem := stm (stm M 89 11 (nI (2 ^ acU n c i))) 89 12 (nI (2 ^ (i - acU n c i)))
theorem s_fa12 (K78 : Mem → Option Mem) {n c : Nat} (hn : n < 5) (M : Mem) (hF : FM M n c) : l_X9_foldAll_12 K78 fuel 0 (crS M n c 0) = K78 (crS M n c n) := by
  have key := iter_loop (fun f x M => l_X9_foldAll_12 K78 f x M) (K78 (crS M n c n)) 0 n (crS M n c) (Nat.zero_le _) ?_ ?_ fuel (by rw [fuel_v]; omega)
  · exact key
  · intro f i _ hi
    have e8 : crS M n c i 89 8 = nI n := by unfold crS; rw [stm_ne (by decide), stm_ne (by decide)]; exact hF.1
    have e94 : crS M n c i 94 i = nI (letN (fig n c i)) := by unfold crS; rw [stm_row (by decide), stm_row (by decide)]; exact hF.2 i hi
    have e11 : crS M n c i 89 11 = nI (2 ^ acU n c i) := by unfold crS; rw [stm_ne (by decide), stm_at]
    have e12 : crS M n c i 89 12 = nI (2 ^ (i - acU n c i)) := by unfold crS; rw [stm_at]
    have h0 := acU_le n c i
    show l_X9_foldAll_12 K78 (f + 1) (nI i) _ = l_X9_foldAll_12 K78 f (nI (i + 1)) _
    rw [u_X9_foldAll_12]
    unfold b_X9_foldAll_12 j_X9_foldAll_42
    rw [e8, if_neg (nI_ge hi (by omega)), ck_t (inb_n (show i < 4 by omega) (by decide)), nI_tn (by omega), e94, s_side (fig_lt n c i), bI_some, e11, stm_row (show 94 ≠ 89 by decide), e94, s_side (fig_lt n c i), bI_some, stm_row (show 94 ≠ 89 by decide), e94, s_side (fig_lt n c i), bI_some, stm_ne (show 12 ≠ 11 by decide), stm_ne (show 12 ≠ 11 by decide), e12, nI_1]
    have hl := acF_le (fig n c i)
    by_cases h : acF (fig n c i) = 1
    · rw [h, if_neg (by decide), if_neg (by decide)]
      congr 1
      unfold crS
      have ea : acU n c (i + 1) = acU n c i + 1 := by show acU n c i + acF (fig n c i) = _; rw [h]
      rw [ea, show nI (2 ^ acU n c i) * (2 : Int32) = nI (2 ^ (acU n c i + 1)) from by rw [Nat.pow_succ]; exact nI_mul _ 2, show nI (2 ^ (i - acU n c i)) * (1 : Int32) = nI (2 ^ (i - acU n c i)) from by rw [show (1 : Int32) = nI 1 from rfl, nI_mul, Nat.mul_one], show i + 1 - (acU n c i + 1) = i - acU n c i by omega]
      simp only [stm_def, upR_at, upR_up]
      congr 1
      funext k
      unfold upd
      by_cases k1 : k = 12
      · simp [k1]
      · by_cases k2 : k = 11
        · simp [k2]
        · simp [k1, k2]
    · have h00 : acF (fig n c i) = 0 := by omega
      rw [h00, if_pos (by decide), if_pos (by decide)]
      congr 1
      unfold crS
      have ea : acU n c (i + 1) = acU n c i := by show acU n c i + acF (fig n c i) = _; rw [h00, Nat.add_zero]
      rw [ea, show nI (2 ^ (i - acU n c i)) * (2 : Int32) = nI (2 ^ (i + 1 - acU n c i)) from by rw [show i + 1 - acU n c i = (i - acU n c i) + 1 by omega, Nat.pow_succ]; exact nI_mul _ 2, show nI (2 ^ acU n c i) * (1 : Int32) = nI (2 ^ acU n c i) from by rw [show (1 : Int32) = nI 1 from rfl, nI_mul, Nat.mul_one]]
      simp only [stm_def, upR_at, upR_up]
      congr 1
      funext k
      unfold upd
      by_cases k1 : k = 12
      · simp [k1]
      · by_cases k2 : k = 11
        · simp [k2]
        · simp [k1, k2]
  · intro f
    have e8 : crS M n c n 89 8 = nI n := by unfold crS; rw [stm_ne (by decide), stm_ne (by decide)]; exact hF.1
    show l_X9_foldAll_12 K78 (f + 1) (nI n) _ = _
    rw [u_X9_foldAll_12]
    unfold b_X9_foldAll_12
    rw [e8, if_pos (nI_le (Nat.le_refl _) (by omega))]
/-- the piles' rows at first -/
def p0S (M : Mem) (i : Nat) : Mem := fil (fil M 95 nI i) 96 (fun _ => 0) i
theorem s_fa98 (K124 : Int32 → Mem → Option Mem) (x1 : Int32) (M : Mem) : l_X9_foldAll_98 K124 fuel x1 0 M = K124 x1 (p0S M 16) := by
  have key := iter_loop (fun f x M => l_X9_foldAll_98 K124 f x1 x M) (K124 x1 (p0S M 16)) 0 16 (p0S M) (Nat.zero_le _) ?_ ?_ fuel (by rw [fuel_v]; omega)
  · unfold p0S at key
    rw [fil_0, fil_0] at key
    exact key
  · intro f i _ hi
    show l_X9_foldAll_98 K124 (f + 1) x1 (nI i) _ = l_X9_foldAll_98 K124 f x1 (nI (i + 1)) _
    rw [u_X9_foldAll_98]
    unfold b_X9_foldAll_98
    rw [if_neg (show ¬ (16 : Int32) ≤ nI i from nI_ge hi (by decide)), ck_t (inb_n hi (by decide)), ck_t (inb_n hi (by decide)), nI_tn (by omega), nI_1]
    congr 1
    funext r
    by_cases h96 : r = 96
    · subst h96
      funext k
      by_cases hk : k = i
      · rw [hk, stm_at]
        unfold p0S
        rw [fil_lt (by omega)]
      · rw [stm_ne hk, stm_row (by decide)]
        unfold p0S
        by_cases hk2 : k < i
        · rw [fil_lt hk2, fil_lt (by omega)]
        · rw [fil_ge (by omega), fil_ge (by omega), fil_row (by decide), fil_row (by decide)]
    · rw [stm_row h96]
      by_cases h95 : r = 95
      · subst h95
        funext k
        unfold p0S
        by_cases hk : k = i
        · rw [hk, stm_at, fil_row (by decide), fil_lt (by omega)]
        · rw [stm_ne hk, fil_row (by decide), fil_row (by decide)]
          by_cases hk2 : k < i
          · rw [fil_lt hk2, fil_lt (by omega)]
          · rw [fil_ge (by omega), fil_ge (by omega)]
      · rw [stm_row h95]
        unfold p0S
        rw [fil_row h96, fil_row h95, fil_row h96, fil_row h95]
  · intro f
    show l_X9_foldAll_98 K124 (f + 1) x1 (nI 16) _ = _
    rw [u_X9_foldAll_98]
    unfold b_X9_foldAll_98
    rw [if_pos (by decide)]
theorem aft_congr {f hi C R : Nat} (hF : fit f hi C R) {g g' : Nat → Int32} (h : ∀ x, x < hi * (R * C) → g x = g' x) {q : Nat} (hq : q < hi * (R * C)) : aft f hi C R g q = aft f hi C R g' q := by
  have hpos := hF.2.1
  have htot := fit_total hF
  generalize hm : q / (2 * hi) = m
  generalize hj : q % (2 * hi) = j
  have hjl : j < 2 * hi := by rw [← hj]; exact Nat.mod_lt _ (by omega)
  have hq2 : 2 * hi * m + j = q := by rw [← hm, ← hj]; exact Nat.div_add_mod q (2 * hi)
  have hml : m < nRf f R * nCf f C := by
    rcases Nat.lt_or_ge m (nRf f R * nCf f C) with h | h
    · exact h
    · have : 2 * hi * (nRf f R * nCf f C) ≤ 2 * hi * m := Nat.mul_le_mul_left _ h
      omega
  have hc : m % nCf f C < nCf f C := Nat.mod_lt _ hF.2.2.1
  have hr : m / nCf f C < nRf f R := (Nat.div_lt_iff_lt_mul hF.2.2.1).mpr hml
  obtain ⟨b1, b2, b3, b4, -, -⟩ := fit_bounds hF hr hc
  have lt_of : ∀ r c, r < R → c < C → hi * (r * C + c) + hi ≤ hi * (R * C) := by
    intro r c hr hc
    have h1 : r * C + c + 1 ≤ R * C := by
      have : (r + 1) * C ≤ R * C := Nat.mul_le_mul_right C hr
      rw [Nat.add_mul, Nat.one_mul] at this
      omega
    have h2 : hi * (r * C + c + 1) ≤ hi * (R * C) := Nat.mul_le_mul_left hi h1
    rw [Nat.mul_add, Nat.mul_one] at h2
    exact h2
  have t2 := lt_of _ _ b2 b1
  have t3 := lt_of _ _ b4 b3
  unfold aft
  simp only [hm, hj]
  by_cases hjh : j < hi
  · rw [if_pos hjh, if_pos hjh]
    exact h _ (by omega)
  · rw [if_neg hjh, if_neg hjh, h _ (by omega)]
/-- the folds, one behind the other -/
theorem s_fa126 (K153 : Int32 → Mem → Option Mem) (x1 : Int32) {n c : Nat} (hn : n < 5) : ∀ (d i : Nat) (M : Mem), i + d = n → FM M n c → M 89 11 = nI (cU n c i) → M 89 12 = nI (rU n c i) → (∀ q, q < 2 ^ n → M 95 q = pil n c i q) → ∀ f, d < f → ∃ M', l_X9_foldAll_126 K153 f x1 (nI i) M = K153 x1 M' ∧ (∀ q, q < 2 ^ n → M' 95 q = pil n c n q) ∧ (∀ r, r ≠ 89 → r ≠ 95 → r ≠ 96 → M' r = M r) ∧ ∀ k, k ≠ 11 → k ≠ 12 → M' 89 k = M 89 k := by
  intro d
  induction d with
  | zero =>
    intro i M hi hF h11 h12 hp f hf
    obtain ⟨g, rfl⟩ : ∃ g, f = g + 1 := ⟨f - 1, by omega⟩
    rw [u_X9_foldAll_126]
    unfold b_X9_foldAll_126
    rw [hF.1, show i = n by omega, if_pos (nI_le (Nat.le_refl _) (by omega))]
    rw [show i = n by omega] at hp
    exact ⟨M, rfl, hp, fun _ _ _ _ => rfl, fun _ _ _ => rfl⟩
  | succ d ih =>
    intro i M hi hF h11 h12 hp f hf
    obtain ⟨g, rfl⟩ : ∃ g, f = g + 1 := ⟨f - 1, by omega⟩
    have hin : i < n := by omega
    obtain ⟨hfit, eC, eR, tot⟩ := fit_U (c := c) hn hin
    obtain ⟨M1, a1, a2, a3, a4, a5, a6⟩ := s_turns hfit M h11 h12
    rw [u_X9_foldAll_126]
    unfold b_X9_foldAll_126
    rw [hF.1, if_neg (nI_ge hin (by omega)), ck_t (inb_n (show i < 4 by omega) (by decide)), nI_tn (by omega), hF.2 i hin, shl1 i (by omega), a1, bV_some, nI_1]
    obtain ⟨M', b1, b2, b3, b4⟩ := ih (i + 1) M1 (by omega) ⟨by rw [a6 8 (by decide) (by decide)]; exact hF.1, fun j hj => by rw [a5 94 (by decide) (by decide) (by decide)]; exact hF.2 j hj⟩ (by rw [a3, eC]) (by rw [a4, eR]) (fun q hq => by
      rw [a2 q (by rw [tot]; exact hq)]
      show aft _ _ _ _ (M 95) q = aft _ _ _ _ (pil n c i) q
      exact aft_congr hfit (fun x hx => hp x (by rw [← tot]; exact hx)) (by rw [tot]; exact hq)) g (by omega)
    exact ⟨M', b1, b2, fun r p q s => by rw [b3 r p q s]; exact a5 r p q s, fun k p q => by rw [b4 k p q]; exact a6 k p q⟩
