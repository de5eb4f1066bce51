/-- the columns and rows that are left ahead of fold i -/
def cU (n c i : Nat) : Nat := 2 ^ (acU n c n - acU n c i)
def rU (n c i : Nat) : Nat := 2 ^ ((n - acU n c n) - (i - acU n c i))
/-- the piles ahead of fold i -/
def pil (n c : Nat) : Nat → Nat → Int32
  | 0, q => nI q
  | i + 1, q => aft (fig n c i) (2 ^ i) (cU n c i) (rU n c i) (pil n c i) q
def lfM (n c i : Nat) : Int32 := if c % 4 = 2 then pil n c n i ^^^ 16 else pil n c n (2 ^ n - 1 - i)
def ceI (n c p : Nat) : Int32 := lfM n c (p / 2) &&& 15
def siI (n c p : Nat) : Int32 := ((lfM n c (p / 2) >>> ((4 : Int32) &&& 31)) &&& 1) ^^^ nI (p % 2)
def tuI (n c p : Nat) : Int32 := lfM n c (p / 2) >>> ((5 : Int32) &&& 31)
/-- a folded sheet in the reference's rows -/
def PM (I : Mem) (n c : Nat) : Prop := I 89 16 = nI (2 ^ acU n c n) ∧ ∀ p, p < 2 * 2 ^ n → I 97 p = ceI n c p ∧ I 98 p = siI n c p ∧ I 99 p = tuI n c p
/-- the folds to be done -/
def FM (I : Mem) (n c : Nat) : Prop := I 89 8 = nI n ∧ ∀ i, i < n → I 94 i = nI (letN (fig n c i))
theorem acU_mono (n c : Nat) {i j : Nat} (h : i ≤ j) : acU n c i ≤ acU n c j ∧ acU n c j ≤ acU n c i + (j - i) := by
  induction j with
  | zero => rw [show i = 0 by omega]; omega
  | succ j ih =>
    by_cases e : i = j + 1
    · rw [e]; omega
    · have := ih (by omega)
      have := acF_le (fig n c j)
      show acU n c i ≤ acU n c j + acF (fig n c j) ∧ acU n c j + acF (fig n c j) ≤ _
      omega
theorem fit_U {n c i : Nat} (hn : n < 5) (hi : i < n) : fit (fig n c i) (2 ^ i) (cU n c i) (rU n c i) ∧ nCf (fig n c i) (cU n c i) = cU n c (i + 1) ∧ nRf (fig n c i) (rU n c i) = rU n c (i + 1) ∧ 2 ^ i * (rU n c i * cU n c i) = 2 ^ n := by
  have h1 := acU_mono n c (show i + 1 ≤ n by omega)
  have h0 := acU_le n c i
  have hs : acU n c (i + 1) = acU n c i + acF (fig n c i) := rfl
  have hl := acF_le (fig n c i)
  have hN := acU_le n c n
  have hm := acU_mono n c (show i ≤ n by omega)
  have tot : 2 ^ i * (rU n c i * cU n c i) = 2 ^ n := by
    unfold rU cU
    rw [← Nat.pow_add, ← Nat.pow_add]
    congr 1
    omega
  have hp := pow4 hn
  have eC : nCf (fig n c i) (cU n c i) = cU n c (i + 1) := by
    unfold nCf cU
    by_cases h : acF (fig n c i) = 1
    · rw [if_pos h, hs, h, show acU n c n - acU n c i = (acU n c n - (acU n c i + 1)) + 1 by omega, Nat.pow_succ]
      omega
    · rw [if_neg h, hs, show acF (fig n c i) = 0 by omega, Nat.add_zero]
  have eR : nRf (fig n c i) (rU n c i) = rU n c (i + 1) := by
    unfold nRf rU
    by_cases h : acF (fig n c i) = 1
    · rw [if_pos h, hs, h]
      congr 1
      omega
    · rw [if_neg h, hs, show acF (fig n c i) = 0 by omega, show (n - acU n c n) - (i - acU n c i) = ((n - acU n c n) - (i + 1 - (acU n c i + 0))) + 1 by omega, Nat.pow_succ]
      omega
  refine ⟨⟨fig_lt n c i, Nat.pow_pos (by decide), ?_, ?_, by rw [tot]; exact hp, ?_⟩, eC, eR, tot⟩
  · rw [eC]; exact Nat.pow_pos (by decide)
  · rw [eR]; exact Nat.pow_pos (by decide)
  · by_cases h : acF (fig n c i) = 1
    · rw [if_pos h, eC]
      unfold cU
      rw [hs, h, show acU n c n - acU n c i = (acU n c n - (acU n c i + 1)) + 1 by omega, Nat.pow_succ]
      omega
    · rw [if_neg h, eR]
      unfold rU
      rw [hs, show acF (fig n c i) = 0 by omega, show (n - acU n c n) - (i - acU n c i) = ((n - acU n c n) - (i + 1 - (acU n c i + 0))) + 1 by omega, Nat.pow_succ]
      omega
theorem s_side {f : Nat} (h : f < 4) (I : Mem) : f_X9_isSide (nI (letN f)) I = some (nI (acF f), I) := by
  match f, h with
  | 0, _ => rfl
  | 1, _ => rfl
  | 2, _ => rfl
  | 3, _ => rfl
/-- the first loop: columns and rows -/
def crS (M : Mem) (n c i : Nat) : Mem := stm (stm M 89 11 (nI (2 ^ acU n c i))) 89 12 (nI (2 ^ (i - acU n c i)))
theorem s_fa12 (K78 : Mem → Option Mem) {n c : Nat} (hn : n < 5) (M : Mem) (hF : FM M n c) : l_X9_foldAll_12 K78 fuel 0 (crS M n c 0) = K78 (crS M n c n) := by
  have key := iter_loop (fun f x M => l_X9_foldAll_12 K78 f x M) (K78 (crS M n c n)) 0 n (crS M n c) (Nat.zero_le _) ?_ ?_ fuel (by rw [fuel_v]; omega)
  · exact key
  · intro f i _ hi
    have e8 : crS M n c i 89 8 = nI n := by unfold crS; rw [stm_ne (by decide), stm_ne (by decide)]; exact hF.1
    have e94 : crS M n c i 94 i = nI (letN (fig n c i)) := by unfold crS; rw [stm_row (by decide), stm_row (by decide)]; exact hF.2 i hi
    have e11 : crS M n c i 89 11 = nI (2 ^ acU n c i) := by unfold crS; rw [stm_ne (by decide), stm_at]
    have e12 : crS M n c i 89 12 = nI (2 ^ (i - acU n c i)) := by unfold crS; rw [stm_at]
    have h0 := acU_le n c i
    show l_X9_foldAll_12 K78 (f + 1) (nI i) _ = l_X9_foldAll_12 K78 f (nI (i + 1)) _
    rw [u_X9_foldAll_12]
    unfold b_X9_foldAll_12 j_X9_foldAll_42
    rw [e8, if_neg (nI_ge hi (by omega)), ck_t (inb_n (show i < 4 by omega) (by decide)), nI_tn (by omega), e94, s_side (fig_lt n c i), bI_some, e11, stm_row (show 94 ≠ 89 by decide), e94, s_side (fig_lt n c i), bI_some, stm_row (show 94 ≠ 89 by decide), e94, s_side (fig_lt n c i), bI_some, stm_ne (show 12 ≠ 11 by decide), stm_ne (show 12 ≠ 11 by decide), e12, nI_1]
    have hl := acF_le (fig n c i)
    by_cases h : acF (fig n c i) = 1
    · rw [h, if_neg (by decide), if_neg (by decide), ck_t (inb_n (show i < 4 by omega) (by decide))]
      congr 1
      unfold crS
      have ea : acU n c (i + 1) = acU n c i + 1 := by show acU n c i + acF (fig n c i) = _; rw [h]
      rw [ea, show nI (2 ^ acU n c i) * (2 : Int32) = nI (2 ^ (acU n c i + 1)) from by rw [Nat.pow_succ]; exact nI_mul _ 2, show nI (2 ^ (i - acU n c i)) * (1 : Int32) = nI (2 ^ (i - acU n c i)) from by rw [show (1 : Int32) = nI 1 from rfl, nI_mul, Nat.mul_one], show i + 1 - (acU n c i + 1) = i - acU n c i by omega]
      simp only [stm_def, upR_at, upR_up]
      congr 1
      funext k
      unfold upd
      by_cases k1 : k = 12
      · simp [k1]
      · by_cases k2 : k = 11
        · simp [k2]
        · simp [k1, k2]
    · have h00 : acF (fig n c i) = 0 := by omega
      rw [h00, if_pos (by decide), if_pos (by decide), ck_t (inb_n (show i < 4 by omega) (by decide))]
      congr 1
      unfold crS
      have ea : acU n c (i + 1) = acU n c i := by show acU n c i + acF (fig n c i) = _; rw [h00, Nat.add_zero]
      rw [ea, show nI (2 ^ (i - acU n c i)) * (2 : Int32) = nI (2 ^ (i + 1 - acU n c i)) from by rw [show i + 1 - acU n c i = (i - acU n c i) + 1 by omega, Nat.pow_succ]; exact nI_mul _ 2, show nI (2 ^ acU n c i) * (1 : Int32) = nI (2 ^ acU n c i) from by rw [show (1 : Int32) = nI 1 from rfl, nI_mul, Nat.mul_one]]
      simp only [stm_def, upR_at, upR_up]
      congr 1
      funext k
      unfold upd
      by_cases k1 : k = 12
      · simp [k1]
      · by_cases k2 : k = 11
        · simp [k2]
        · simp [k1, k2]
  · intro f
    have e8 : crS M n c n 89 8 = nI n := by unfold crS; rw [stm_ne (by decide), stm_ne (by decide)]; exact hF.1
    show l_X9_foldAll_12 K78 (f + 1) (nI n) _ = _
    rw [u_X9_foldAll_12]
    unfold b_X9_foldAll_12
    rw [e8, if_pos (nI_le (Nat.le_refl _) (by omega))]
/-- the piles' rows at first -/
def p0S (M : Mem) (i : Nat) : Mem := fil (fil M 95 nI i) 96 (fun _ => 0) i
theorem s_fa98 (K124 : Int32 → Mem → Option Mem) (x1 : Int32) (M : Mem) : l_X9_foldAll_98 K124 fuel x1 0 M = K124 x1 (p0S M 16) := by
  have key := iter_loop (fun f x M => l_X9_foldAll_98 K124 f x1 x M) (K124 x1 (p0S M 16)) 0 16 (p0S M) (Nat.zero_le _) ?_ ?_ fuel (by rw [fuel_v]; omega)
  · unfold p0S at key
    rw [fil_0, fil_0] at key
    exact key
  · intro f i _ hi
    show l_X9_foldAll_98 K124 (f + 1) x1 (nI i) _ = l_X9_foldAll_98 K124 f x1 (nI (i + 1)) _
    rw [u_X9_foldAll_98]
    unfold b_X9_foldAll_98
    rw [if_neg (show ¬ (16 : Int32) ≤ nI i from nI_ge hi (by decide)), ck_t (inb_n hi (by decide)), ck_t (inb_n hi (by decide)), nI_tn (by omega), nI_1]
    congr 1
    funext r
    by_cases h96 : r = 96
    · subst h96
      funext k
      by_cases hk : k = i
      · rw [hk, stm_at]
        unfold p0S
        rw [fil_lt (by omega)]
      · rw [stm_ne hk, stm_row (by decide)]
        unfold p0S
        by_cases hk2 : k < i
        · rw [fil_lt hk2, fil_lt (by omega)]
        · rw [fil_ge (by omega), fil_ge (by omega), fil_row (by decide), fil_row (by decide)]
    · rw [stm_row h96]
      by_cases h95 : r = 95
      · subst h95
        funext k
        unfold p0S
        by_cases hk : k = i
        · rw [hk, stm_at, fil_row (by decide), fil_lt (by omega)]
        · rw [stm_ne hk, fil_row (show (95 : Nat) ≠ 96 by decide), fil_row (show (95 : Nat) ≠ 96 by decide)]
          by_cases hk2 : k < i
          · rw [fil_lt hk2, fil_lt (by omega)]
          · rw [fil_ge (by omega), fil_ge (by omega)]
      · rw [stm_row h95]
        unfold p0S
        rw [fil_row h96, fil_row h95, fil_row h96, fil_row h95]
  · intro f
    show l_X9_foldAll_98 K124 (f + 1) x1 (nI 16) _ = _
    rw [u_X9_foldAll_98]
    unfold b_X9_foldAll_98
    rw [if_pos (by decide)]
theorem aft_congr {f hi C R : Nat} (hF : fit f hi C R) {g g' : Nat → Int32} (h : ∀ x, x < hi * (R * C) → g x = g' x) {q : Nat} (hq : q < hi * (R * C)) : aft f hi C R g q = aft f hi C R g' q := by
  have hpos := hF.2.1
  have htot := fit_total hF
  generalize hm : q / (2 * hi) = m
  generalize hj : q % (2 * hi) = j
  have hjl : j < 2 * hi := by rw [← hj]; exact Nat.mod_lt _ (by omega)
  have hq2 : 2 * hi * m + j = q := by rw [← hm, ← hj]; exact Nat.div_add_mod q (2 * hi)
  have hml : m < nRf f R * nCf f C := by
    rcases Nat.lt_or_ge m (nRf f R * nCf f C) with h | h
    · exact h
    · have : 2 * hi * (nRf f R * nCf f C) ≤ 2 * hi * m := Nat.mul_le_mul_left _ h
      omega
  have hc : m % nCf f C < nCf f C := Nat.mod_lt _ hF.2.2.1
  have hr : m / nCf f C < nRf f R := (Nat.div_lt_iff_lt_mul hF.2.2.1).mpr hml
  obtain ⟨b1, b2, b3, b4, -, -⟩ := fit_bounds hF hr hc
  have lt_of : ∀ r c, r < R → c < C → hi * (r * C + c) + hi ≤ hi * (R * C) := by
    intro r c hr hc
    have h1 : r * C + c + 1 ≤ R * C := by
      have : (r + 1) * C ≤ R * C := Nat.mul_le_mul_right C hr
      rw [Nat.add_mul, Nat.one_mul] at this
      omega
    have h2 : hi * (r * C + c + 1) ≤ hi * (R * C) := Nat.mul_le_mul_left hi h1
    rw [Nat.mul_add, Nat.mul_one] at h2
    exact h2
  have t2 := lt_of _ _ b2 b1
  have t3 := lt_of _ _ b4 b3
  unfold aft
  simp only [hm, hj]
  by_cases hjh : j < hi
  · rw [if_pos hjh, if_pos hjh]
    exact h _ (by omega)
  · rw [if_neg hjh, if_neg hjh, h _ (by omega)]
/-- the folds, one behind the other -/
theorem s_fa126 (K153 : Int32 → Mem → Option Mem) (x1 : Int32) {n c : Nat} (hn : n < 5) : ∀ (d i : Nat) (M : Mem), i + d = n → FM M n c → M 89 11 = nI (cU n c i) → M 89 12 = nI (rU n c i) → (∀ q, q < 2 ^ n → M 95 q = pil n c i q) → ∀ f, d < f → ∃ M', l_X9_foldAll_126 K153 f x1 (nI i) M = K153 x1 M' ∧ (∀ q, q < 2 ^ n → M' 95 q = pil n c n q) ∧ (∀ r, r ≠ 89 → r ≠ 95 → r ≠ 96 → M' r = M r) ∧ ∀ k, k ≠ 11 → k ≠ 12 → M' 89 k = M 89 k := by
  intro d
  induction d with
  | zero =>
    intro i M hi hF h11 h12 hp f hf
    obtain ⟨g, rfl⟩ : ∃ g, f = g + 1 := ⟨f - 1, by omega⟩
    rw [u_X9_foldAll_126]
    unfold b_X9_foldAll_126
    rw [hF.1, show i = n by omega, if_pos (nI_le (Nat.le_refl _) (by omega))]
    rw [show i = n by omega] at hp
    exact ⟨M, rfl, hp, fun _ _ _ _ => rfl, fun _ _ _ => rfl⟩
  | succ d ih =>
    intro i M hi hF h11 h12 hp f hf
    obtain ⟨g, rfl⟩ : ∃ g, f = g + 1 := ⟨f - 1, by omega⟩
    have hin : i < n := by omega
    obtain ⟨hfit, eC, eR, tot⟩ := fit_U (c := c) hn hin
    obtain ⟨M1, a1, a2, a3, a4, a5, a6⟩ := s_turns hfit M h11 h12
    rw [u_X9_foldAll_126]
    unfold b_X9_foldAll_126
    rw [hF.1, if_neg (nI_ge hin (by omega)), ck_t (inb_n (show i < 4 by omega) (by decide)), nI_tn (by omega), hF.2 i hin, shl1 i (by omega), a1, bV_some, nI_1]
    obtain ⟨M', b1, b2, b3, b4⟩ := ih (i + 1) M1 (by omega) ⟨by rw [a6 8 (by decide) (by decide)]; exact hF.1, fun j hj => by rw [a5 94 (by decide) (by decide) (by decide)]; exact hF.2 j hj⟩ (by rw [a3, eC]) (by rw [a4, eR]) (fun q hq => by
      rw [a2 q (by rw [tot]; exact hq)]
      show aft _ _ _ _ (M 95) q = aft _ _ _ _ (pil n c i) q
      exact aft_congr hfit (fun x hx => hp x (by rw [← tot]; exact hx)) (by rw [tot]; exact hq)) g (by omega)
    exact ⟨M', b1, b2, fun r p q s => by rw [b3 r p q s]; exact a5 r p q s, fun k p q => by rw [b4 k p q]; exact a6 k p q⟩
/-- the last loops: each leaf's two pages -/
def enS (n c : Nat) (M : Mem) (p : Nat) : Mem := fil (fil (fil M 97 (ceI n c) p) 98 (siI n c) p) 99 (tuI n c) p
theorem enS_row {n c : Nat} {M : Mem} {p r : Nat} (h7 : r ≠ 97) (h8 : r ≠ 98) (h9 : r ≠ 99) : enS n c M p r = M r := by
  unfold enS
  rw [fil_row h9, fil_row h8, fil_row h7]
theorem enS_s {n c : Nat} (M : Mem) (p : Nat) : stm (stm (stm (enS n c M p) 97 p (ceI n c p)) 98 p (siI n c p)) 99 p (tuI n c p) = enS n c M (p + 1) := by
  funext r
  by_cases h9 : r = 99
  · subst h9
    funext k
    by_cases hk : k = p
    · rw [hk, stm_at]
      unfold enS
      rw [fil_lt (by omega)]
    · rw [stm_ne hk, stm_row (by decide), stm_row (by decide)]
      unfold enS
      by_cases hk2 : k < p
      · rw [fil_lt hk2, fil_lt (by omega)]
      · rw [fil_ge (by omega), fil_ge (by omega), fil_row (by decide), fil_row (by decide), fil_row (by decide), fil_row (by decide)]
  · rw [stm_row h9]
    by_cases h8 : r = 98
    · subst h8
      funext k
      by_cases hk : k = p
      · rw [hk, stm_at]
        unfold enS
        rw [fil_row (show (98 : Nat) ≠ 99 by decide), fil_lt (by omega)]
      · rw [stm_ne hk, stm_row (by decide)]
        unfold enS
        rw [fil_row (show (98 : Nat) ≠ 99 by decide), fil_row (show (98 : Nat) ≠ 99 by decide)]
        by_cases hk2 : k < p
        · rw [fil_lt hk2, fil_lt (by omega)]
        · rw [fil_ge (by omega), fil_ge (by omega), fil_row (by decide), fil_row (by decide)]
    · rw [stm_row h8]
      by_cases h7 : r = 97
      · subst h7
        funext k
        by_cases hk : k = p
        · rw [hk, stm_at]
          unfold enS
          rw [fil_row (show (97 : Nat) ≠ 99 by decide), fil_row (show (97 : Nat) ≠ 98 by decide), fil_lt (by omega)]
        · rw [stm_ne hk]
          unfold enS
          rw [fil_row (show (97 : Nat) ≠ 99 by decide), fil_row (show (97 : Nat) ≠ 98 by decide), fil_row (show (97 : Nat) ≠ 99 by decide), fil_row (show (97 : Nat) ≠ 98 by decide)]
          by_cases hk2 : k < p
          · rw [fil_lt hk2, fil_lt (by omega)]
          · rw [fil_ge (by omega), fil_ge (by omega)]
      · rw [stm_row h7, enS_row h7 h8 h9, enS_row h7 h8 h9]
theorem s_fa213 (K276 : Int32 → Int32 → Int32 → Mem → Option Mem) (x1 x2 : Int32) {n c i : Nat} (hn : n < 5) (hi : i < 2 ^ n) (M : Mem) : l_X9_foldAll_213 K276 fuel x1 x2 (nI i) (lfM n c i) 0 (enS n c M (2 * i)) = K276 x1 x2 (nI i) (enS n c M (2 * (i + 1))) := by
  have hp := pow4 hn
  have key := iter_loop (fun f x M => l_X9_foldAll_213 K276 f x1 x2 (nI i) (lfM n c i) x M) (K276 x1 x2 (nI i) (enS n c M (2 * (i + 1)))) 0 2 (fun k => enS n c M (2 * i + k)) (Nat.zero_le _) ?_ ?_ fuel (by rw [fuel_v]; omega)
  · exact key
  · intro f k _ hk
    show l_X9_foldAll_213 K276 (f + 1) x1 x2 (nI i) (lfM n c i) (nI k) _ = l_X9_foldAll_213 K276 f x1 x2 (nI i) (lfM n c i) (nI (k + 1)) _
    rw [u_X9_foldAll_213]
    unfold b_X9_foldAll_213
    have e1 : (2 : Int32) * nI i + nI k = nI (2 * i + k) := by rw [show (2 : Int32) * nI i = nI (2 * i) from nI_mul 2 i, nI_add]
    have e2 : (2 * i + k) / 2 = i := by omega
    have e3 : (2 * i + k) % 2 = k := by omega
    rw [if_neg (show ¬ (2 : Int32) ≤ nI k from nI_ge hk (by decide)), e1, ck_t (inb_n (by omega) (by decide)), ck_t (inb_n (by omega) (by decide)), ck_t (inb_n (by omega) (by decide)), nI_tn (by omega), nI_1]
    congr 1
    have h1 : ceI n c (2 * i + k) = lfM n c i &&& 15 := by unfold ceI; rw [e2]
    have h2 : siI n c (2 * i + k) = ((lfM n c i >>> ((4 : Int32) &&& 31)) &&& 1) ^^^ nI k := by unfold siI; rw [e2, e3]
    have h3 : tuI n c (2 * i + k) = lfM n c i >>> ((5 : Int32) &&& 31) := by unfold tuI; rw [e2]
    rw [← h1, ← h2, ← h3]
    exact enS_s M (2 * i + k)
  · intro f
    show l_X9_foldAll_213 K276 (f + 1) x1 x2 (nI i) (lfM n c i) (nI 2) _ = _
    rw [u_X9_foldAll_213]
    unfold b_X9_foldAll_213
    rw [if_pos (by decide)]
    rfl
theorem s_fa177 (K282 : Mem → Option Mem) {n c : Nat} (hn : n < 5) (M : Mem) (hp : ∀ q, q < 2 ^ n → M 95 q = pil n c n q) : l_X9_foldAll_177 K282 fuel (nI (2 ^ n)) (if c % 4 = 2 then 1 else 0) 0 M = K282 (enS n c M (2 * 2 ^ n)) := by
  have h16 := pow4 hn
  have key := iter_loop (fun f x M => l_X9_foldAll_177 K282 f (nI (2 ^ n)) (if c % 4 = 2 then 1 else 0) x M) (K282 (enS n c M (2 * 2 ^ n))) 0 (2 ^ n) (fun i => enS n c M (2 * i)) (Nat.zero_le _) ?_ ?_ fuel (by rw [fuel_v]; omega)
  · refine Eq.trans ?_ key
    congr 1
    unfold enS
    rw [fil_0, fil_0, fil_0]
  · intro f i _ hi
    show l_X9_foldAll_177 K282 (f + 1) _ _ (nI i) _ = l_X9_foldAll_177 K282 f _ _ (nI (i + 1)) _
    rw [u_X9_foldAll_177]
    unfold b_X9_foldAll_177
    rw [if_neg (nI_ge hi (by omega))]
    by_cases h2 : c % 4 = 2
    · rw [if_pos h2, if_neg (by decide), ck_t (inb_n (by omega) (by decide)), nI_tn (by omega), enS_row (by decide) (by decide) (by decide), hp i hi]
      have e : pil n c n i ^^^ 16 = lfM n c i := by unfold lfM; rw [if_pos h2]
      rw [e, s_fa213 _ _ _ hn hi M, nI_1]
    · rw [if_neg h2, if_pos rfl]
      have e1 : nI (2 ^ n) - 1 - nI i = nI (2 ^ n - 1 - i) := by
        rw [show nI (2 ^ n) - 1 = nI (2 ^ n - 1) from nI_sub (a := 2 ^ n) (b := 1) (by omega) (by omega), nI_sub (by omega) (by omega)]
      have e : pil n c n (2 ^ n - 1 - i) = lfM n c i := by unfold lfM; rw [if_neg h2]
      rw [e1, ck_t (inb_n (by omega) (by decide)), nI_tn (by omega), enS_row (by decide) (by decide) (by decide), hp _ (by omega), e, s_fa213 _ _ _ hn hi M, nI_1]
  · intro f
    show l_X9_foldAll_177 K282 (f + 1) _ _ (nI (2 ^ n)) _ = _
    rw [u_X9_foldAll_177]
    unfold b_X9_foldAll_177
    rw [if_pos (nI_le (Nat.le_refl _) (by omega))]
theorem fig_last {n c : Nat} (hn : 1 ≤ n) : fig n c (n - 1) = c % 4 := by
  unfold fig
  rw [Nat.sub_self, Nat.pow_zero, Nat.div_one]
/-- all folds: where each page comes to -/
theorem s_foldAll {n c : Nat} (hv : vld n c) (I : Mem) (hF : FM I n c) : ∃ I', f_X9_foldAll I = some I' ∧ PM I' n c ∧ (∀ r, r ≠ 89 → r ≠ 95 → r ≠ 96 → r ≠ 97 → r ≠ 98 → r ≠ 99 → I' r = I r) ∧ ∀ k, k ≠ 11 → k ≠ 12 → k ≠ 16 → I' 89 k = I 89 k := by
  obtain ⟨h1, h4, hc, hl⟩ := hv
  have hn : n < 5 := by omega
  have h16 := pow4 hn
  have hA := acU_le n c n
  unfold f_X9_foldAll
  have e0 : stm (stm I 89 11 1) 89 12 1 = crS I n c 0 := rfl
  rw [e0, s_fa12 _ hn I hF]
  generalize hM1 : stm (crS I n c n) 89 16 (crS I n c n 89 11) = M1
  have m11 : M1 89 11 = nI (2 ^ acU n c n) := by rw [← hM1, stm_ne (by decide)]; unfold crS; rw [stm_ne (by decide), stm_at]
  have m12 : M1 89 12 = nI (2 ^ (n - acU n c n)) := by rw [← hM1, stm_ne (by decide)]; unfold crS; rw [stm_at]
  have m16 : M1 89 16 = nI (2 ^ acU n c n) := by rw [← hM1, stm_at]; unfold crS; rw [stm_ne (by decide), stm_at]
  have mr : ∀ r, r ≠ 89 → M1 r = I r := fun r h => by rw [← hM1, stm_row h]; unfold crS; rw [stm_row h, stm_row h]
  have mk : ∀ k, k ≠ 11 → k ≠ 12 → k ≠ 16 → M1 89 k = I 89 k := fun k a b d => by rw [← hM1, stm_ne d]; unfold crS; rw [stm_ne b, stm_ne a]
  try dsimp only
  rw [m11, m12, nI_mul, show 2 ^ acU n c n * 2 ^ (n - acU n c n) = 2 ^ n by rw [← Nat.pow_add]; congr 1; omega, s_fa98]
  try dsimp only
  have pr : ∀ r, r ≠ 95 → r ≠ 96 → p0S M1 16 r = M1 r := fun r a b => by unfold p0S; rw [fil_row b, fil_row a]
  obtain ⟨M2, b1, b2, b3, b4⟩ := s_fa126 (fun (z14 : Int32) I15 => ck (inb ((I15 89 8) - (1 : Int32)) 4) <| (if (I15 94 (tn ((I15 89 8) - (1 : Int32)))) = (114 : Int32) then l_X9_foldAll_177 (fun I30 => some I30) fuel z14 (1 : Int32) (0 : Int32) I15 else l_X9_foldAll_177 (fun I31 => some I31) fuel z14 (0 : Int32) (0 : Int32) I15)) (nI (2 ^ n)) (c := c) hn n 0 (p0S M1 16) (by omega)
    ⟨by rw [pr 89 (by decide) (by decide), mk 8 (by decide) (by decide) (by decide)]; exact hF.1, fun i hi => by rw [pr 94 (by decide) (by decide), mr 94 (by decide)]; exact hF.2 i hi⟩
    (by rw [pr 89 (by decide) (by decide), m11]; rfl) (by rw [pr 89 (by decide) (by decide), m12]; rfl)
    (fun q hq => by unfold p0S; rw [fil_row (by decide), fil_lt (by omega)]; rfl) fuel (by rw [fuel_v]; omega)
  have m8 : M2 89 8 = nI n := by rw [b4 8 (by decide) (by decide), pr 89 (by decide) (by decide), mk 8 (by decide) (by decide) (by decide)]; exact hF.1
  have m94 : M2 94 (n - 1) = nI (letN (c % 4)) := by
    rw [b3 94 (by decide) (by decide) (by decide), pr 94 (by decide) (by decide), mr 94 (by decide), hF.2 (n - 1) (by omega), fig_last h1]
  refine ⟨enS n c M2 (2 * 2 ^ n), ?_, ⟨?_, fun p hp => ?_⟩, fun r a1 a2 a3 a4 a5 a6 => ?_, fun k a1 a2 a3 => ?_⟩
  · refine b1.trans ?_
    try dsimp only
    rw [m8, show nI n - 1 = nI (n - 1) from nI_sub (a := n) (b := 1) h1 (by omega), ck_t (inb_n (show n - 1 < 4 by omega) (by decide)), nI_tn (by omega), m94]
    rcases hl with hl | hl
    · have := s_fa177 (fun I31 => some I31) hn M2 b2
      rw [hl, if_neg (by decide)] at this
      rw [hl, if_neg (by decide)]
      exact this
    · have := s_fa177 (fun I31 => some I31) hn M2 b2
      rw [hl, if_pos rfl] at this
      rw [hl, if_pos (by decide)]
      exact this
  · rw [enS_row (by decide) (by decide) (by decide), b4 16 (by decide) (by decide), pr 89 (by decide) (by decide)]
    exact m16
  · unfold enS
    refine ⟨?_, ?_, ?_⟩
    · rw [fil_row (show (97 : Nat) ≠ 99 by decide), fil_row (show (97 : Nat) ≠ 98 by decide), fil_lt hp]
    · rw [fil_row (show (98 : Nat) ≠ 99 by decide), fil_lt hp]
    · rw [fil_lt hp]
  · rw [enS_row a4 a5 a6, b3 r a1 a2 a3, pr r a2 a3]
    exact mr r a1
  · rw [enS_row (by decide) (by decide) (by decide), b4 k a1 a2, pr 89 (by decide) (by decide)]
    exact mk k a1 a2 a3
