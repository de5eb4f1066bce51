/-! FOLDS: the reference's way, piles upon piles -/
def inS (M : Mem) (to st co hi : Nat) (kx : Int32) (i : Nat) : Mem := upR M 96 (fun q => if to ≤ q ∧ q < to + i then M 95 (st + (q - to)) else if to + hi ≤ q ∧ q < to + hi + i then M 95 (co + hi - 1 - (q - (to + hi))) ^^^ kx else M 96 q)
theorem inS_0 (M : Mem) (to st co hi : Nat) (kx : Int32) : inS M to st co hi kx 0 = M := by
  funext i
  unfold inS upR
  by_cases h : i = 96
  · rw [if_pos h, h]
    funext q
    rw [if_neg (by omega), if_neg (by omega)]
  · rw [if_neg h]
theorem inS_s (M : Mem) {to st co hi : Nat} (kx : Int32) {i : Nat} (hi1 : i < hi) : stm (stm (inS M to st co hi kx i) 96 (to + i) (M 95 (st + i))) 96 (to + hi + i) (M 95 (co + hi - 1 - i) ^^^ kx) = inS M to st co hi kx (i + 1) := by
  unfold inS
  rw [stm_upR, stm_upR]
  congr 1
  funext q
  unfold upd
  by_cases h1 : q = to + hi + i
  · rw [if_pos h1, if_neg (by omega), if_pos (by omega), h1, show to + hi + i - (to + hi) = i by omega]
  · rw [if_neg h1]
    by_cases h2 : q = to + i
    · rw [if_pos h2, if_pos (by omega), h2, show to + i - to = i by omega]
    · rw [if_neg h2]
      show (if to ≤ q ∧ q < to + i then _ else if to + hi ≤ q ∧ q < to + hi + i then _ else _) = _
      by_cases h3 : to ≤ q ∧ q < to + i
      · rw [if_pos h3, if_pos (by omega)]
      · rw [if_neg h3, if_neg (show ¬ (to ≤ q ∧ q < to + (i + 1)) by omega)]
        by_cases h4 : to + hi ≤ q ∧ q < to + hi + i
        · rw [if_pos h4, if_pos (by omega)]
        · rw [if_neg h4, if_neg (by omega)]
theorem inS_row {M : Mem} {to st co hi : Nat} {kx : Int32} {i r : Nat} (h : r ≠ 96) : inS M to st co hi kx i r = M r := upR_ne h
theorem s_t184 (K : Int32 → Int32 → Int32 → Int32 → Int32 → Int32 → Int32 → Mem → Option Mem) (x1 x3 x4 x5 x6 x7 : Int32) {to st co hi : Nat} (h1 : to + 2 * hi ≤ 16) (h2 : st + hi ≤ 16) (h3 : co + hi ≤ 16) (M : Mem) : l_X9_turns_184 K fuel x1 (nI hi) x3 x4 x5 x6 x7 (nI to) (nI st) (nI co) 0 M = K x1 (nI hi) x3 x4 x5 x6 x7 (inS M to st co hi (if x3 = 0 then 48 else 16) hi) := by
  have key := iter_loop (fun f x M => l_X9_turns_184 K f x1 (nI hi) x3 x4 x5 x6 x7 (nI to) (nI st) (nI co) x M) (K x1 (nI hi) x3 x4 x5 x6 x7 (inS M to st co hi (if x3 = 0 then 48 else 16) hi)) 0 hi (inS M to st co hi (if x3 = 0 then 48 else 16)) (Nat.zero_le _) ?_ ?_ fuel (by rw [fuel_v]; omega)
  · rw [inS_0] at key
    exact key
  · intro f i _ hi1
    show l_X9_turns_184 K (f + 1) x1 (nI hi) x3 x4 x5 x6 x7 (nI to) (nI st) (nI co) (nI i) _ = l_X9_turns_184 K f x1 (nI hi) x3 x4 x5 x6 x7 (nI to) (nI st) (nI co) (nI (i + 1)) _
    rw [u_X9_turns_184]
    unfold b_X9_turns_184
    have e1 : nI co + nI hi - 1 - nI i = nI (co + hi - 1 - i) := by
      rw [nI_add, show nI (co + hi) - 1 = nI (co + hi - 1) from nI_sub (a := co + hi) (b := 1) (by omega) (by omega), nI_sub (by omega) (by omega)]
    rw [if_neg (nI_ge hi1 (by omega)), e1, nI_add, nI_add, nI_add, nI_add, ck_t (inb_n (by omega) (by decide)), ck_t (inb_n (by omega) (by decide)), ck_t (inb_n (by omega) (by decide)), nI_tn (by omega), nI_tn (by omega), nI_tn (by omega), nI_tn (by omega), nI_1, stm_row (by decide), inS_row (by decide), ck_t (inb_n (by omega) (by decide))]
    by_cases hx : x3 = 0
    · rw [if_pos hx, if_pos hx, inS_s M 48 hi1]
    · rw [if_neg hx, if_neg hx, inS_s M 16 hi1, ck_t (inb_n (by omega) (by decide))]
  · intro f
    show l_X9_turns_184 K (f + 1) x1 (nI hi) x3 x4 x5 x6 x7 (nI to) (nI st) (nI co) (nI hi) _ = _
    rw [u_X9_turns_184]
    unfold b_X9_turns_184
    rw [if_pos (nI_le (Nat.le_refl _) (by omega))]
/-- which half stays, which comes -/
def sC (f c nc : Nat) : Nat := if f = 1 then c + nc else c
def sR (f r nr : Nat) : Nat := if f = 3 then r + nr else r
def cC (f C s : Nat) : Nat := if acF f = 1 then C - 1 - s else s
def cR (f R s : Nat) : Nat := if acF f = 1 then s else R - 1 - s
def kxF (f : Nat) : Int32 := if acF f = 1 then 16 else 48
def nCf (f C : Nat) : Nat := if acF f = 1 then C / 2 else C
def nRf (f R : Nat) : Nat := if acF f = 1 then R else R / 2
/-- what comes to place q of the piles by one fold -/
def aft (f hi C R : Nat) (g : Nat → Int32) (q : Nat) : Int32 :=
  let m := q / (2 * hi)
  let j := q % (2 * hi)
  let r := m / nCf f C
  let c := m % nCf f C
  if j < hi then g (hi * (sR f r (nRf f R) * C + sC f c (nCf f C)) + j)
  else g (hi * (cR f R (sR f r (nRf f R)) * C + cC f C (sC f c (nCf f C))) + hi - 1 - (j - hi)) ^^^ kxF f
theorem aft_at {f hi C R : Nat} {g : Nat → Int32} {r c j : Nat} (hh : 0 < hi) (hc : c < nCf f C) (hj : j < 2 * hi) : aft f hi C R g (2 * hi * (r * nCf f C + c) + j) = if j < hi then g (hi * (sR f r (nRf f R) * C + sC f c (nCf f C)) + j) else g (hi * (cR f R (sR f r (nRf f R)) * C + cC f C (sC f c (nCf f C))) + hi - 1 - (j - hi)) ^^^ kxF f := by
  have e1 : (2 * hi * (r * nCf f C + c) + j) / (2 * hi) = r * nCf f C + c := by
    rw [Nat.mul_add_div (by omega), Nat.div_eq_of_lt hj, Nat.add_zero]
  have e2 : (2 * hi * (r * nCf f C + c) + j) % (2 * hi) = j := by
    rw [Nat.mul_add_mod, Nat.mod_eq_of_lt hj]
  have e3 : (r * nCf f C + c) / nCf f C = r := by
    rw [Nat.mul_comm, Nat.mul_add_div (by omega), Nat.div_eq_of_lt hc, Nat.add_zero]
  have e4 : (r * nCf f C + c) % nCf f C = c := by
    rw [Nat.mul_comm, Nat.mul_add_mod, Nat.mod_eq_of_lt hc]
  unfold aft
  simp only [e1, e2, e3, e4]
/-- the sizes fit -/
def fit (f hi C R : Nat) : Prop := f < 4 ∧ 0 < hi ∧ 0 < nCf f C ∧ 0 < nRf f R ∧ hi * (R * C) ≤ 16 ∧ (if acF f = 1 then C = 2 * nCf f C else R = 2 * nRf f R)
theorem fit_bounds {f hi C R r c : Nat} (h : fit f hi C R) (hr : r < nRf f R) (hc : c < nCf f C) : sC f c (nCf f C) < C ∧ sR f r (nRf f R) < R ∧ cC f C (sC f c (nCf f C)) < C ∧ cR f R (sR f r (nRf f R)) < R ∧ nCf f C ≤ C ∧ nRf f R ≤ R := by
  obtain ⟨hf, -, h1, h2, -, h3⟩ := h
  match f, hf with
  | 0, _ => simp [sC, sR, cC, cR, nCf, nRf, acF] at *; omega
  | 1, _ => simp [sC, sR, cC, cR, nCf, nRf, acF] at *; omega
  | 2, _ => simp [sC, sR, cC, cR, nCf, nRf, acF] at *; omega
  | 3, _ => simp [sC, sR, cC, cR, nCf, nRf, acF] at *; omega
theorem fit_total {f hi C R : Nat} (h : fit f hi C R) : 2 * hi * (nRf f R * nCf f C) = hi * (R * C) := by
  obtain ⟨hf, -, h1, h2, -, h3⟩ := h
  by_cases ha : acF f = 1
  · rw [if_pos ha] at h3
    have e : nRf f R = R := by unfold nRf; rw [if_pos ha]
    rw [e]
    generalize nCf f C = x at *
    subst h3
    simp only [Nat.mul_comm, Nat.mul_left_comm, Nat.mul_assoc]
  · rw [if_neg ha] at h3
    have e : nCf f C = C := by unfold nCf; rw [if_neg ha]
    rw [e]
    generalize nRf f R = x at *
    subst h3
    simp only [Nat.mul_comm, Nat.mul_left_comm, Nat.mul_assoc]
theorem cell_le {hi r R c C : Nat} (hr : r < R) (hc : c < C) (h : hi * (R * C) ≤ 16) : hi * (r * C + c) + hi ≤ 16 := by
  have h1 : r * C + c + 1 ≤ R * C := by
    have : (r + 1) * C ≤ R * C := Nat.mul_le_mul_right C hr
    rw [Nat.add_mul, Nat.one_mul] at this
    omega
  have h2 : hi * (r * C + c + 1) ≤ hi * (R * C) := Nat.mul_le_mul_left hi h1
  rw [Nat.mul_add, Nat.mul_one] at h2
  omega
theorem to_le {hi r R c C : Nat} (hr : r < R) (hc : c < C) (h : 2 * hi * (R * C) ≤ 16) : 2 * hi * (r * C + c) + 2 * hi ≤ 16 := by
  have h1 : r * C + c + 1 ≤ R * C := by
    have : (r + 1) * C ≤ R * C := Nat.mul_le_mul_right C hr
    rw [Nat.add_mul, Nat.one_mul] at this
    omega
  have h2 : 2 * hi * (r * C + c + 1) ≤ 2 * hi * (R * C) := Nat.mul_le_mul_left (2 * hi) h1
  rw [Nat.mul_add, Nat.mul_one] at h2
  omega
theorem small_mul {a b : Nat} (ha : 0 < a) (h : a * b ≤ 16) : b ≤ 16 := by
  have : 1 * b ≤ a * b := Nat.mul_le_mul_right b ha
  omega
/-- one cell -/
theorem s_t56c (K260 : Int32 → Int32 → Int32 → Int32 → Int32 → Int32 → Mem → Option Mem) (R' : Int32 → Int32 → Int32 → Int32 → Int32 → Int32 → Int32 → Mem → Option Mem) {f hi C R r c : Nat} (hF : fit f hi C R) (hr : r < nRf f R) (hc : c < nCf f C) (M : Mem) (h11 : M 89 11 = nI C) (h12 : M 89 12 = nI R) :
    b_X9_turns_56 K260 R' (nI (letN f)) (nI hi) (nI (acF f)) (nI (nCf f C)) (nI (nRf f R)) (nI r) (nI c) M = R' (nI (letN f)) (nI hi) (nI (acF f)) (nI (nCf f C)) (nI (nRf f R)) (nI r) (nI (c + 1)) (inS M (2 * hi * (r * nCf f C + c)) (hi * (sR f r (nRf f R) * C + sC f c (nCf f C))) (hi * (cR f R (sR f r (nRf f R)) * C + cC f C (sC f c (nCf f C)))) hi (kxF f) hi) := by
  obtain ⟨b1, b2, b3, b4, b5, b6⟩ := fit_bounds hF hr hc
  have hsz := hF.2.2.2.2.1
  have hpos := hF.2.1
  have hRC : R * C ≤ 16 := small_mul hpos hsz
  have hC16 : C ≤ 16 := small_mul (show 0 < R by omega) hRC
  have hR16 : R ≤ 16 := small_mul (show 0 < C by omega) (by rw [Nat.mul_comm]; exact hRC)
  have t1 := to_le hr hc (by rw [fit_total hF]; exact hsz)
  have t2 := cell_le b2 b1 hsz
  have t3 := cell_le b4 b3 hsz
  have key := s_t184 (fun z8 z9 z10 z11 z12 z13 z14 I15 => R' z8 z9 z10 z11 z12 z13 (z14 + 1) I15) (nI (letN f)) (nI (acF f)) (nI (nCf f C)) (nI (nRf f R)) (nI r) (nI c) t1 t2 t3 M
  have hkx : (if nI (acF f) = 0 then (48 : Int32) else 16) = kxF f := by
    unfold kxF
    have := acF_le f
    by_cases h : acF f = 1
    · rw [h]; rfl
    · rw [show acF f = 0 by omega]; rfl
  rw [hkx] at key
  rw [nI_1] at key
  rw [← key]
  unfold b_X9_turns_56
  rw [if_neg (nI_ge hc (by omega))]
  unfold j_X9_turns_97 j_X9_turns_137
  have eto : (2 : Int32) * nI hi * (nI r * nI (nCf f C) + nI c) = nI (2 * hi * (r * nCf f C + c)) := by
    rw [show (2 : Int32) * nI hi = nI (2 * hi) from nI_mul 2 hi, nI_mul, nI_add, nI_mul]
  have hpl : ∀ x y : Nat, nI hi * (nI x * nI C + nI y) = nI (hi * (x * C + y)) := fun x y => by rw [nI_mul, nI_add, nI_mul]
  rw [h11, h12, eto]
  have hs1 : ∀ x : Nat, x < C → nI C - 1 - nI x = nI (C - 1 - x) := fun x hx => by
    rw [show nI C - 1 = nI (C - 1) from nI_sub (a := C) (b := 1) (by omega) (by omega), nI_sub (by omega) (by omega)]
  have hs2 : ∀ x : Nat, x < R → nI R - 1 - nI x = nI (R - 1 - x) := fun x hx => by
    rw [show nI R - 1 = nI (R - 1) from nI_sub (a := R) (b := 1) (by omega) (by omega), nI_sub (by omega) (by omega)]
  obtain ⟨hf, -⟩ := hF
  match f, hf with
  | 0, _ =>
    rw [if_neg (by decide), if_neg (by decide), if_pos (by decide), if_pos (by decide), hs2 r (by simpa [sR] using b2), hpl, hpl]
    rfl
  | 1, _ =>
    rw [if_pos (by decide), if_neg (by decide), if_neg (by decide), if_neg (by decide), nI_add, hs1 (c + nCf 1 C) (by simpa [sC] using b1), hpl, hpl]
    rfl
  | 2, _ =>
    rw [if_neg (by decide), if_neg (by decide), if_neg (by decide), if_neg (by decide), hs1 c (by simpa [sC] using b1), hpl, hpl]
    rfl
  | 3, _ =>
    rw [if_neg (by decide), if_pos (by decide), if_pos (by decide), if_pos (by decide), nI_add, hs2 (r + nRf 3 R) (by simpa [sR] using b2), hpl, hpl]
    rfl
theorem inS_aft {f hi C R r c : Nat} (hF : fit f hi C R) (hc : c < nCf f C) (M : Mem) (g : Nat → Int32) (hg : M 95 = g) (i : Nat) (hi1 : i ≤ 96 → True) (q : Nat) : inS M (2 * hi * (r * nCf f C + c)) (hi * (sR f r (nRf f R) * C + sC f c (nCf f C))) (hi * (cR f R (sR f r (nRf f R)) * C + cC f C (sC f c (nCf f C)))) hi (kxF f) hi 96 q = if 2 * hi * (r * nCf f C + c) ≤ q ∧ q < 2 * hi * (r * nCf f C + c) + 2 * hi then aft f hi C R g q else M 96 q := by
  unfold inS
  rw [upR_at, hg]
  generalize hto : 2 * hi * (r * nCf f C + c) = to
  by_cases h1 : to ≤ q ∧ q < to + hi
  · rw [if_pos h1, if_pos (by omega)]
    have := aft_at (f := f) (hi := hi) (C := C) (R := R) (g := g) (r := r) (c := c) (j := q - to) hF.2.1 hc (by omega)
    rw [hto, show to + (q - to) = q by omega, if_pos (by omega)] at this
    exact this.symm
  · rw [if_neg h1]
    by_cases h2 : to + hi ≤ q ∧ q < to + hi + hi
    · rw [if_pos h2, if_pos (by omega)]
      have := aft_at (f := f) (hi := hi) (C := C) (R := R) (g := g) (r := r) (c := c) (j := q - to) hF.2.1 hc (by omega)
      rw [hto, show to + (q - to) = q by omega, if_neg (by omega), show q - to - hi = q - (to + hi) by omega] at this
      exact this.symm
    · rw [if_neg h2, if_neg (by omega)]
/-- the piles' second row when the places from lo up to ahead of up are done -/
def dnS (M : Mem) (f hi C R lo up : Nat) : Mem := upR M 96 (fun q => if lo ≤ q ∧ q < up then aft f hi C R (M 95) q else M 96 q)
theorem dnS_row {M : Mem} {f hi C R lo up r : Nat} (h : r ≠ 96) : dnS M f hi C R lo up r = M r := upR_ne h
theorem dnS_0 (M : Mem) (f hi C R lo : Nat) : dnS M f hi C R lo lo = M := by
  funext i
  unfold dnS upR
  by_cases h : i = 96
  · rw [if_pos h, h]
    funext q
    rw [if_neg (by omega)]
  · rw [if_neg h]
theorem s_t56 (K260 : Int32 → Int32 → Int32 → Int32 → Int32 → Int32 → Mem → Option Mem) {f hi C R r : Nat} (hF : fit f hi C R) (hr : r < nRf f R) (M : Mem) (h11 : M 89 11 = nI C) (h12 : M 89 12 = nI R) :
    l_X9_turns_56 K260 fuel (nI (letN f)) (nI hi) (nI (acF f)) (nI (nCf f C)) (nI (nRf f R)) (nI r) 0 M = K260 (nI (letN f)) (nI hi) (nI (acF f)) (nI (nCf f C)) (nI (nRf f R)) (nI r) (dnS M f hi C R (2 * hi * (r * nCf f C)) (2 * hi * (r * nCf f C + nCf f C))) := by
  have hsz := hF.2.2.2.2.1
  have hRC : R * C ≤ 16 := small_mul hF.2.1 hsz
  have hb := fit_bounds hF hr hF.2.2.1
  have hC16 : C ≤ 16 := small_mul (show 0 < R by omega) hRC
  have key := iter_loop (fun f' x M => l_X9_turns_56 K260 f' (nI (letN f)) (nI hi) (nI (acF f)) (nI (nCf f C)) (nI (nRf f R)) (nI r) x M) (K260 (nI (letN f)) (nI hi) (nI (acF f)) (nI (nCf f C)) (nI (nRf f R)) (nI r) (dnS M f hi C R (2 * hi * (r * nCf f C)) (2 * hi * (r * nCf f C + nCf f C)))) 0 (nCf f C) (fun c => dnS M f hi C R (2 * hi * (r * nCf f C)) (2 * hi * (r * nCf f C + c))) (Nat.zero_le _) ?_ ?_ fuel (by rw [fuel_v]; omega)
  · rw [Nat.add_zero, dnS_0] at key
    exact key
  · intro f' c _ hc
    show l_X9_turns_56 K260 (f' + 1) _ _ _ _ _ _ (nI c) _ = l_X9_turns_56 K260 f' _ _ _ _ _ _ (nI (c + 1)) _
    rw [u_X9_turns_56, s_t56c K260 _ hF hr hc _ (by rw [dnS_row (by decide)]; exact h11) (by rw [dnS_row (by decide)]; exact h12)]
    congr 1
    funext i
    by_cases h96 : i = 96
    · subst h96
      funext q
      rw [inS_aft hF hc _ (M 95) (dnS_row (by decide)) 0 (fun _ => trivial) q]
      unfold dnS
      rw [upR_at, upR_at]
      have e : 2 * hi * (r * nCf f C + (c + 1)) = 2 * hi * (r * nCf f C + c) + 2 * hi := by rw [← Nat.add_assoc, Nat.mul_add _ _ 1, Nat.mul_one]
      have e2 : 2 * hi * (r * nCf f C) ≤ 2 * hi * (r * nCf f C + c) := Nat.mul_le_mul_left _ (by omega)
      rw [e]
      generalize 2 * hi * (r * nCf f C + c) = a1 at *
      by_cases g1 : a1 ≤ q ∧ q < a1 + 2 * hi
      · rw [if_pos g1, if_pos (by omega)]
      · rw [if_neg g1]
        by_cases g2 : 2 * hi * (r * nCf f C) ≤ q ∧ q < a1
        · rw [if_pos g2, if_pos (by omega)]
        · rw [if_neg g2, if_neg (by omega)]
    · rw [inS_row h96, dnS_row h96, dnS_row h96]
  · intro f'
    show l_X9_turns_56 K260 (f' + 1) _ _ _ _ _ _ (nI (nCf f C)) _ = _
    rw [u_X9_turns_56]
    unfold b_X9_turns_56
    rw [if_pos (nI_le (Nat.le_refl _) (by omega))]
theorem s_t46 (K266 : Int32 → Int32 → Mem → Option Mem) {f hi C R : Nat} (hF : fit f hi C R) (M : Mem) (h11 : M 89 11 = nI C) (h12 : M 89 12 = nI R) :
    l_X9_turns_46 K266 fuel (nI (letN f)) (nI hi) (nI (acF f)) (nI (nCf f C)) (nI (nRf f R)) 0 M = K266 (nI (nCf f C)) (nI (nRf f R)) (dnS M f hi C R 0 (2 * hi * (nRf f R * nCf f C))) := by
  have hsz := hF.2.2.2.2.1
  have hRC : R * C ≤ 16 := small_mul hF.2.1 hsz
  have hb := fit_bounds hF hF.2.2.2.1 hF.2.2.1
  have hR16 : R ≤ 16 := small_mul (show 0 < C by omega) (by rw [Nat.mul_comm]; exact hRC)
  have key := iter_loop (fun f' x M => l_X9_turns_46 K266 f' (nI (letN f)) (nI hi) (nI (acF f)) (nI (nCf f C)) (nI (nRf f R)) x M) (K266 (nI (nCf f C)) (nI (nRf f R)) (dnS M f hi C R 0 (2 * hi * (nRf f R * nCf f C)))) 0 (nRf f R) (fun r => dnS M f hi C R 0 (2 * hi * (r * nCf f C))) (Nat.zero_le _) ?_ ?_ fuel (by rw [fuel_v]; omega)
  · rw [Nat.zero_mul, Nat.mul_zero, dnS_0] at key
    exact key
  · intro f' r _ hr
    show l_X9_turns_46 K266 (f' + 1) _ _ _ _ _ (nI r) _ = l_X9_turns_46 K266 f' _ _ _ _ _ (nI (r + 1)) _
    rw [u_X9_turns_46]
    unfold b_X9_turns_46
    rw [if_neg (nI_ge hr (by omega)), s_t56 _ hF hr _ (by rw [dnS_row (by decide)]; exact h11) (by rw [dnS_row (by decide)]; exact h12), nI_1]
    congr 1
    funext i
    by_cases h96 : i = 96
    · subst h96
      funext q
      unfold dnS
      rw [upR_at, upR_at, upR_at, upR_ne (show 95 ≠ 96 by decide)]
      have e : (r + 1) * nCf f C = r * nCf f C + nCf f C := by rw [Nat.add_mul, Nat.one_mul]
      have e2 : 2 * hi * (r * nCf f C) ≤ 2 * hi * (r * nCf f C + nCf f C) := Nat.mul_le_mul_left _ (by omega)
      rw [e]
      generalize 2 * hi * (r * nCf f C + nCf f C) = a2 at *
      generalize 2 * hi * (r * nCf f C) = a1 at *
      by_cases g1 : a1 ≤ q ∧ q < a2
      · rw [if_pos g1, if_pos (by omega)]
      · rw [if_neg g1]
        by_cases g2 : 0 ≤ q ∧ q < a1
        · rw [if_pos g2, if_pos (by omega)]
        · rw [if_neg g2, if_neg (by omega)]
    · rw [dnS_row h96, dnS_row h96, dnS_row h96]
  · intro f'
    show l_X9_turns_46 K266 (f' + 1) _ _ _ _ _ (nI (nRf f R)) _ = _
    rw [u_X9_turns_46]
    unfold b_X9_turns_46
    rw [if_pos (nI_le (Nat.le_refl _) (by omega))]
theorem s_t269 (K296 : Int32 → Int32 → Mem → Option Mem) (x4 x5 : Int32) (M : Mem) : l_X9_turns_269 K296 fuel x4 x5 0 M = K296 x4 x5 (fil M 95 (M 96) 16) := by
  refine fill_loop (fun f x M => l_X9_turns_269 K296 f x4 x5 x M) (fun M => K296 x4 x5 M) 95 16 (M 96) M ?_ ?_ fuel (by rw [fuel_v]; decide)
  · intro f i hi
    show l_X9_turns_269 K296 (f + 1) x4 x5 (nI i) _ = l_X9_turns_269 K296 f x4 x5 (nI (i + 1)) _
    rw [u_X9_turns_269]
    unfold b_X9_turns_269
    rw [if_neg (show ¬ (16 : Int32) ≤ nI i from nI_ge hi (by decide)), ck_t (inb_n hi (by decide)), ck_t (inb_n hi (by decide)), nI_tn (by omega), nI_1, fil_row (by decide)]
  · intro f
    show l_X9_turns_269 K296 (f + 1) x4 x5 (nI 16) _ = _
    rw [u_X9_turns_269]
    unfold b_X9_turns_269
    rw [if_pos (by decide)]
theorem nI_half {n : Nat} (h : n < 2 ^ 31) : nI n / 2 = nI (n / 2) := by
  apply eq_T.mpr
  rw [Int32.toInt_div, nI_toInt (by omega), nI_toInt (by omega)]
  rw [show (2 : Int32).toInt = 2 by decide]
  rw [show Int.tdiv (n : Int) 2 = ((n / 2 : Nat) : Int) by rw [Int.tdiv_eq_ediv_of_nonneg (by omega)]; omega]
  exact Int.bmod_eq_of_le (by omega) (by omega)
/-- one fold of the piles -/
theorem s_turns {f hi C R : Nat} (hF : fit f hi C R) (M : Mem) (h11 : M 89 11 = nI C) (h12 : M 89 12 = nI R) : ∃ M', f_X9_turns (nI (letN f)) (nI hi) M = some M' ∧ (∀ q, q < hi * (R * C) → M' 95 q = aft f hi C R (M 95) q) ∧ M' 89 11 = nI (nCf f C) ∧ M' 89 12 = nI (nRf f R) ∧ (∀ i, i ≠ 89 → i ≠ 95 → i ≠ 96 → M' i = M i) ∧ ∀ k, k ≠ 11 → k ≠ 12 → M' 89 k = M 89 k := by
  have hsz := hF.2.2.2.2.1
  have hRC : R * C ≤ 16 := small_mul hF.2.1 hsz
  have hb := fit_bounds hF hF.2.2.2.1 hF.2.2.1
  have hC16 : C ≤ 16 := small_mul (show 0 < R by omega) hRC
  have hR16 : R ≤ 16 := small_mul (show 0 < C by omega) (by rw [Nat.mul_comm]; exact hRC)
  generalize hD : dnS M f hi C R 0 (2 * hi * (nRf f R * nCf f C)) = D
  have hside : f_X9_isSide (nI (letN f)) M = some (nI (acF f), M) := by
    obtain ⟨hf, -⟩ := hF
    match f, hf with
    | 0, _ => rfl
    | 1, _ => rfl
    | 2, _ => rfl
    | 3, _ => rfl
  refine ⟨stm (stm (fil D 95 (D 96) 16) 89 11 (nI (nCf f C))) 89 12 (nI (nRf f R)), ?_, fun q hq => ?_, ?_, stm_at _ _ _ _, fun i a b c => ?_, fun k a b => ?_⟩
  · unfold f_X9_turns
    rw [hside, bI_some]
    unfold j_X9_turns_22
    by_cases ha : acF f = 1
    · have e1 : nCf f C = C / 2 := by unfold nCf; rw [if_pos ha]
      have e2 : nRf f R = R := by unfold nRf; rw [if_pos ha]
      rw [if_neg (by rw [ha]; decide), if_neg (by rw [ha]; decide), h11, h12, nI_half (by omega), ← e1]
      have := s_t46 (fun (z31 : Int32) (z32 : Int32) I33 => l_X9_turns_269 (fun (z34 : Int32) (z35 : Int32) I36 => some (stm (stm I36 89 11 z34) 89 12 z35)) fuel z31 z32 (0 : Int32) I33) hF M h11 h12
      rw [e2] at this ⊢
      rw [this, s_t269, ← hD, e2]
    · have e1 : nCf f C = C := by unfold nCf; rw [if_neg ha]
      have e2 : nRf f R = R / 2 := by unfold nRf; rw [if_neg ha]
      have ha0 : acF f = 0 := by have := acF_le f; omega
      rw [if_pos (by rw [ha0]; decide), if_pos (by rw [ha0]; decide), h11, h12, nI_half (by omega), ← e2]
      have := s_t46 (fun (z23 : Int32) (z24 : Int32) I25 => l_X9_turns_269 (fun (z28 : Int32) (z29 : Int32) I30 => some (stm (stm I30 89 11 z28) 89 12 z29)) fuel z23 z24 (0 : Int32) I25) hF M h11 h12
      rw [e1] at this ⊢
      rw [this, s_t269, ← hD, e1]
  · rw [stm_row (by decide), stm_row (by decide), fil_lt (by omega), ← hD]
    unfold dnS
    rw [upR_at, if_pos ⟨Nat.zero_le _, by rw [fit_total hF]; exact hq⟩]
  · rw [stm_ne (by decide), stm_at]
  · rw [stm_row a, stm_row a, fil_row b, ← hD, dnS_row c]
  · rw [stm_ne b, stm_ne a, fil_row (by decide), ← hD, dnS_row (by decide)]
