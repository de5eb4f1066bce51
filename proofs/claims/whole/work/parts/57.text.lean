/-! TEXTS: figures and folds in a text, the class -/
def isF (c : Nat) : Prop := c = 98 ∨ c = 108 ∨ c = 114 ∨ c = 116
def fxN (c : Nat) : Nat := if c = 98 then 0 else if c = 108 then 1 else if c = 114 then 2 else 3
theorem fxN_lt (c : Nat) : fxN c < 4 := by
  unfold fxN
  by_cases a : c = 98
  · rw [if_pos a]; decide
  · rw [if_neg a]
    by_cases b : c = 108
    · rw [if_pos b]; decide
    · rw [if_neg b]
      by_cases d : c = 114
      · rw [if_pos d]; decide
      · rw [if_neg d]; decide
theorem letN_fx {c : Nat} (h : isF c) : letN (fxN c) = c := by
  rcases h with rfl | rfl | rfl | rfl <;> rfl
theorem fx_letN : ∀ f, f < 4 → fxN (letN f) = f := by decide +kernel
theorem sidx1T : ∀ c, c < 127 → (if c = 98 ∨ c = 108 ∨ c = 114 ∨ c = 116 then sidx 1 (nI c) = nI (fxN c) else sidx 1 (nI c) = -1) := by decide +kernel
theorem sidx1_y {c : Nat} (hc : c < 127) (h : isF c) : sidx 1 (nI c) = nI (fxN c) := by
  have := sidx1T c hc
  rw [if_pos (show c = 98 ∨ c = 108 ∨ c = 114 ∨ c = 116 from h)] at this
  exact this
theorem sidx1_n {c : Nat} (hc : c < 127) (h : ¬ isF c) : sidx 1 (nI c) = -1 := by
  have := sidx1T c hc
  rw [if_neg (show ¬ (c = 98 ∨ c = 108 ∨ c = 114 ∨ c = 116) from h)] at this
  exact this
/-- the code of d folds from b on -/
def cdN (x : Nat → Nat) (b : Nat) : Nat → Nat
  | 0 => 0
  | d + 1 => 4 * cdN x b d + fxN (x (b + d))
theorem cdN_lt (x : Nat → Nat) (b : Nat) : ∀ d, cdN x b d < 4 ^ d
  | 0 => Nat.zero_lt_one
  | d + 1 => by
    have := cdN_lt x b d
    have := fxN_lt (x (b + d))
    show 4 * cdN x b d + fxN (x (b + d)) < 4 ^ (d + 1)
    rw [Nat.pow_succ]
    omega
theorem cdN_div (x : Nat → Nat) (b m : Nat) : ∀ k, cdN x b (m + k) / 4 ^ k = cdN x b m
  | 0 => by rw [Nat.pow_zero, Nat.div_one]; rfl
  | k + 1 => by
    have ih := cdN_div x b m k
    have := fxN_lt (x (b + (m + k)))
    show (4 * cdN x b (m + k) + fxN (x (b + (m + k)))) / 4 ^ (k + 1) = _
    rw [Nat.pow_succ, Nat.mul_comm (4 ^ k) 4, ← Nat.div_div_eq_div_mul, show (4 * cdN x b (m + k) + fxN (x (b + (m + k)))) / 4 = cdN x b (m + k) by omega]
    exact ih
theorem cdN_fig {x : Nat → Nat} {b n i : Nat} (hi : i < n) : fig n (cdN x b n) i = fxN (x (b + i)) := by
  unfold fig
  have h := cdN_div x b (i + 1) (n - 1 - i)
  rw [show i + 1 + (n - 1 - i) = n by omega] at h
  rw [h]
  have := fxN_lt (x (b + i))
  show (4 * cdN x b i + fxN (x (b + i))) % 4 = _
  omega
theorem cdN_of {x : Nat → Nat} {b n c : Nat} (hc : c < 4 ^ n) (h : ∀ i, i < n → fig n c i = fxN (x (b + i))) : cdN x b n = c := by
  have key : ∀ m, m ≤ n → c / 4 ^ (n - m) = cdN x b m := by
    intro m
    induction m with
    | zero => intro _; rw [Nat.sub_zero, Nat.div_eq_of_lt hc]; rfl
    | succ m ih =>
      intro hm
      have h1 := ih (by omega)
      have h2 := h m (by omega)
      unfold fig at h2
      rw [show n - 1 - m = n - (m + 1) by omega] at h2
      rw [show n - m = n - (m + 1) + 1 by omega, Nat.pow_succ, ← Nat.div_div_eq_div_mul] at h1
      show _ = 4 * cdN x b m + fxN (x (b + m))
      omega
  have := key n (Nat.le_refl _)
  rw [Nat.sub_self, Nat.pow_zero, Nat.div_one] at this
  exact this.symm
/-- the letters from b up to e are folds -/
def fOk (x : Nat → Nat) (b e : Nat) : Prop := b < e ∧ e - b ≤ 4 ∧ (∀ i, b ≤ i → i < e → isF (x i)) ∧ (x (e - 1) = 108 ∨ x (e - 1) = 114)
theorem fOk_last {x : Nat → Nat} {b e : Nat} (h : b < e) (hf : isF (x (e - 1))) : acF (cdN x b (e - b) % 4) = 1 ↔ (x (e - 1) = 108 ∨ x (e - 1) = 114) := by
  obtain ⟨d, hd⟩ : ∃ d, e - b = d + 1 := ⟨e - b - 1, by omega⟩
  rw [hd]
  have := fxN_lt (x (b + d))
  have e1 : cdN x b (d + 1) % 4 = fxN (x (b + d)) := by
    show (4 * cdN x b d + fxN (x (b + d))) % 4 = _
    omega
  rw [e1, show b + d = e - 1 by omega]
  rcases hf with h | h | h | h <;> rw [h] <;> decide
theorem fOk_vld {x : Nat → Nat} {b e : Nat} (h : fOk x b e) : vld (e - b) (cdN x b (e - b)) := by
  obtain ⟨h1, h2, h3, h4⟩ := h
  refine ⟨by omega, h2, cdN_lt x b _, ?_⟩
  have := (fOk_last h1 (h3 (e - 1) (by omega) (by omega))).mpr h4
  exact vB_ac.mp this
def TXT (I : Mem) (L : Nat) (x : Nat → Nat) : Prop := I 1 1 = nI L ∧ L ≤ 200 ∧ ∀ i, i < L → I 2 i = nI (x i) ∧ 32 ≤ x i ∧ x i ≤ 126
theorem TXT.same {I J : Mem} {L : Nat} {x : Nat → Nat} (h : TXT I L x) (e1 : J 1 = I 1) (e2 : J 2 = I 2) : TXT J L x := by
  unfold TXT
  rw [e1, e2]
  exact h
theorem s_foldsIn {I : Mem} {L : Nat} {x : Nat → Nat} (h : TXT I L x) {b e : Nat} (hb : b ≤ L) (he : e ≤ L) : (fOk x b e → f_X6_foldsIn (nI b) (nI e) I = some (nI (cdN x b (e - b)), I)) ∧ (¬ fOk x b e → f_X6_foldsIn (nI b) (nI e) I = some (-1, I)) := by
  obtain ⟨-, hL, hx⟩ := h
  unfold f_X6_foldsIn
  by_cases h1 : e ≤ b
  · rw [if_pos (nI_le h1 (by omega))]
    exact ⟨fun q => absurd q.1 (by omega), fun _ => rfl⟩
  rw [if_neg (nI_ge (by omega) (by omega)), nI_sub (by omega) (by omega)]
  by_cases h2 : e - b ≤ 4
  rotate_left 1
  · rw [if_neg (show ¬ nI (e - b) ≤ (4 : Int32) from nI_ge (a := 4) (by omega) (by omega))]
    exact ⟨fun q => absurd q.2.1 (by omega), fun _ => rfl⟩
  rw [if_pos (show nI (e - b) ≤ (4 : Int32) from nI_le (b := 4) h2 (by decide))]
  have key : ∀ (d i f : Nat), b + i + d = e → d < f → ((∀ j, b + i ≤ j → j < e → isF (x j)) → l_X6_foldsIn_19 (fun I2 => some ((-1 : Int32), I2)) (fun (z3 : Int32) I4 => bI (f_X5_lastFigure z3 I4) fun r6 I5 => bI (f_X5_isAcross r6 I5) fun r8 I7 => (if r8 = 0 then some ((-1 : Int32), I7) else some (z3, I7))) f (nI e) (nI (cdN x b i)) (nI (b + i)) I = some ((if acF (cdN x b (e - b) % 4) = 1 then nI (cdN x b (e - b)) else -1), I)) ∧ (¬ (∀ j, b + i ≤ j → j < e → isF (x j)) → l_X6_foldsIn_19 (fun I2 => some ((-1 : Int32), I2)) (fun (z3 : Int32) I4 => bI (f_X5_lastFigure z3 I4) fun r6 I5 => bI (f_X5_isAcross r6 I5) fun r8 I7 => (if r8 = 0 then some ((-1 : Int32), I7) else some (z3, I7))) f (nI e) (nI (cdN x b i)) (nI (b + i)) I = some (-1, I)) := by
    intro d
    induction d with
    | zero =>
      intro i f hi hf
      obtain ⟨g, rfl⟩ : ∃ g, f = g + 1 := ⟨f - 1, by omega⟩
      rw [u_X6_foldsIn_19]
      unfold b_X6_foldsIn_19
      have hc := cdN_lt x b i
      have h4 := pow44 (show i < 5 by omega)
      rw [if_pos (nI_le (by omega) (by omega)), show e - b = i by omega]
      dsimp only
      rw [s_last (by omega), bI_some, s_across (Nat.mod_lt _ (by decide)), bI_some]
      refine ⟨fun _ => ?_, fun q => absurd (fun j a b => by omega) q⟩
      have := acF_le (cdN x b i % 4)
      by_cases ha : acF (cdN x b i % 4) = 1
      · rw [ha, if_neg (show ¬ nI 1 = 0 by decide), if_pos rfl]
      · rw [show acF (cdN x b i % 4) = 0 by omega, if_pos (show nI 0 = 0 from rfl), if_neg (by decide)]
    | succ d ih =>
      intro i f hi hf
      obtain ⟨g, rfl⟩ : ∃ g, f = g + 1 := ⟨f - 1, by omega⟩
      obtain ⟨x1, x2, x3⟩ := hx (b + i) (by omega)
      have ih' := ih (i + 1) g (by omega) (by omega)
      rw [u_X6_foldsIn_19]
      unfold b_X6_foldsIn_19
      rw [if_neg (nI_ge (by omega) (by omega)), ck_t (inb_n (show b + i < 200 by omega) (by decide)), nI_tn (by omega), x1]
      by_cases hF : isF (x (b + i))
      · rw [sidx1_y (by omega) hF, if_pos (nI_pos' (by have := fxN_lt (x (b + i)); omega)), show (4 : Int32) * nI (cdN x b i) = nI (4 * cdN x b i) from nI_mul 4 _, nI_add, nI_1, show 4 * cdN x b i + fxN (x (b + i)) = cdN x b (i + 1) from rfl, show b + i + 1 = b + (i + 1) by omega]
        refine ⟨fun q => ih'.1 (fun j a c => q j (by omega) c), fun q => ih'.2 (fun q' => q (fun j a c => ?_))⟩
        by_cases hj : j = b + i
        · rw [hj]; exact hF
        · exact q' j (by omega) c
      · rw [sidx1_n (by omega) hF, if_neg (by decide)]
        exact ⟨fun q => absurd (q (b + i) (Nat.le_refl _) (by omega)) hF, fun _ => rfl⟩
  have k0 := key (e - b) 0 fuel (by omega) (by rw [fuel_v]; omega)
  rw [Nat.add_zero] at k0
  constructor
  · intro q
    refine (k0.1 q.2.2.1).trans ?_
    rw [if_pos ((fOk_last q.1 (q.2.2.1 (e - 1) (by omega) (by omega))).mpr q.2.2.2)]
  · intro q
    by_cases hall : ∀ j, b ≤ j → j < e → isF (x j)
    · refine (k0.1 hall).trans ?_
      rw [if_neg (fun ha => q ⟨by omega, h2, hall, (fOk_last (by omega) (hall (e - 1) (by omega) (by omega))).mp ha⟩)]
    · exact k0.2 hall
def dig (c : Nat) : Prop := 48 ≤ c ∧ c ≤ 57
/-- the number of d figures from b on -/
def vl (x : Nat → Nat) (b : Nat) : Nat → Nat
  | 0 => 0
  | d + 1 => 10 * vl x b d + (x (b + d) - 48)
theorem vl_lt {x : Nat → Nat} {b : Nat} : ∀ d, (∀ i, i < d → dig (x (b + i))) → vl x b d < 10 ^ d
  | 0, _ => Nat.zero_lt_one
  | d + 1, h => by
    have := vl_lt d (fun i hi => h i (by omega))
    have := h d (by omega)
    unfold dig at this
    show 10 * vl x b d + (x (b + d) - 48) < 10 ^ (d + 1)
    rw [Nat.pow_succ]
    omega
theorem vl_1000 {x : Nat → Nat} {b d : Nat} (hd : d ≤ 3) (h : ∀ i, i < d → dig (x (b + i))) : vl x b d < 1000 := by
  have h1 := vl_lt d h
  have h2 : 10 ^ d ≤ 10 ^ 3 := Nat.pow_le_pow_right (by decide) hd
  have : (10 : Nat) ^ 3 = 1000 := by decide
  omega
/-- there is a number from b up to e -/
def nOk (x : Nat → Nat) (b e : Nat) : Prop := b < e ∧ e - b ≤ 3 ∧ ∀ i, b ≤ i → i < e → dig (x i)
theorem nOk.lt {x : Nat → Nat} {b e : Nat} (h : nOk x b e) : vl x b (e - b) < 1000 := vl_1000 h.2.1 (fun i hi => h.2.2 (b + i) (by omega) (by omega))
theorem vl_step {x : Nat → Nat} {b i : Nat} (h : dig (x (b + i))) : (10 : Int32) * nI (vl x b i) + nI (x (b + i)) - 48 = nI (vl x b (i + 1)) ∨ ¬ vl x b i < 1000 := by
  by_cases hv : vl x b i < 1000
  · left
    unfold dig at h
    rw [show (10 : Int32) * nI (vl x b i) = nI (10 * vl x b i) from nI_mul 10 _, nI_add, show nI (10 * vl x b i + x (b + i)) - 48 = nI (10 * vl x b i + x (b + i) - 48) from nI_sub (b := 48) (by omega) (by omega)]
    congr 1
    show _ = 10 * vl x b i + (x (b + i) - 48)
    omega
  · exact Or.inr hv
theorem s_figuresIn {I : Mem} {L : Nat} {x : Nat → Nat} (h : TXT I L x) {b e : Nat} (hb : b ≤ L) (he : e ≤ L) : (nOk x b e → f_X6_figuresIn (nI b) (nI e) I = some (nI (vl x b (e - b)), I)) ∧ (¬ nOk x b e → f_X6_figuresIn (nI b) (nI e) I = some (-1, I)) := by
  obtain ⟨-, hL, hx⟩ := h
  unfold f_X6_figuresIn
  by_cases h1 : e ≤ b
  · rw [if_pos (nI_le h1 (by omega))]
    exact ⟨fun q => absurd q.1 (by omega), fun _ => rfl⟩
  rw [if_neg (nI_ge (by omega) (by omega)), nI_sub (by omega) (by omega)]
  by_cases h2 : e - b ≤ 3
  rotate_left 1
  · rw [if_neg (show ¬ nI (e - b) ≤ (3 : Int32) from nI_ge (a := 3) (by omega) (by omega))]
    exact ⟨fun q => absurd q.2.1 (by omega), fun _ => rfl⟩
  rw [if_pos (show nI (e - b) ≤ (3 : Int32) from nI_le (b := 3) h2 (by decide))]
  have key : ∀ (d i f : Nat), b + i + d = e → d < f → (∀ j, j < i → dig (x (b + j))) → ((∀ j, b + i ≤ j → j < e → dig (x j)) → l_X6_figuresIn_19 (fun I4 => some ((-1 : Int32), I4)) (fun (z5 : Int32) I6 => some (z5, I6)) f (nI e) (nI (vl x b i)) (nI (b + i)) I = some (nI (vl x b (e - b)), I)) ∧ (¬ (∀ j, b + i ≤ j → j < e → dig (x j)) → l_X6_figuresIn_19 (fun I4 => some ((-1 : Int32), I4)) (fun (z5 : Int32) I6 => some (z5, I6)) f (nI e) (nI (vl x b i)) (nI (b + i)) I = some (-1, I)) := by
    intro d
    induction d with
    | zero =>
      intro i f hi hf hd
      obtain ⟨g, rfl⟩ : ∃ g, f = g + 1 := ⟨f - 1, by omega⟩
      rw [u_X6_figuresIn_19]
      unfold b_X6_figuresIn_19
      rw [if_pos (nI_le (by omega) (by omega)), show e - b = i by omega]
      exact ⟨fun _ => rfl, fun q => absurd (fun j a b => by omega) q⟩
    | succ d ih =>
      intro i f hi hf hd
      obtain ⟨g, rfl⟩ : ∃ g, f = g + 1 := ⟨f - 1, by omega⟩
      obtain ⟨x1, x2, x3⟩ := hx (b + i) (by omega)
      rw [u_X6_figuresIn_19]
      unfold b_X6_figuresIn_19
      have hck : ∀ {α : Type} (z : Option α), ck (inb (nI (b + i)) 200) z = z := fun z => ck_t (inb_n (show b + i < 200 by omega) (by decide))
      rw [if_neg (nI_ge (by omega) (by omega)), hck, nI_tn (by omega), x1, hck, hck]
      by_cases hD : dig (x (b + i))
      · have hdd := hD
        unfold dig at hdd
        have hv := vl_1000 (x := x) (b := b) (d := i) (by omega) hd
        rw [if_neg (show ¬ nI (x (b + i)) < (48 : Int32) from nI_nlt (b := 48) (by omega) (by omega)), if_pos (show nI (x (b + i)) ≤ (57 : Int32) from nI_le (b := 57) (by omega) (by decide)), (vl_step hD).resolve_right (by omega), nI_1, show b + i + 1 = b + (i + 1) by omega]
        have ih' := ih (i + 1) g (by omega) (by omega) (fun j hj => by
          by_cases e : j = i
          · rw [e]; exact hD
          · exact hd j (by omega))
        refine ⟨fun q => ih'.1 (fun j a c => q j (by omega) c), fun q => ih'.2 (fun q' => q (fun j a c => ?_))⟩
        by_cases hj : j = b + i
        · rw [hj]; exact hD
        · exact q' j (by omega) c
      · refine ⟨fun q => absurd (q (b + i) (Nat.le_refl _) (by omega)) hD, fun _ => ?_⟩
        unfold dig at hD
        by_cases h48 : x (b + i) < 48
        · rw [if_pos (show nI (x (b + i)) < (48 : Int32) from nI_lt h48 (by decide))]
        · rw [if_neg (show ¬ nI (x (b + i)) < (48 : Int32) from nI_nlt (b := 48) (by omega) (by omega)), if_neg (show ¬ nI (x (b + i)) ≤ (57 : Int32) from nI_ge (a := 57) (by omega) (by omega))]
  have k0 := key (e - b) 0 fuel (by omega) (by rw [fuel_v]; omega) (fun j hj => by omega)
  rw [Nat.add_zero] at k0
  exact ⟨fun q => k0.1 q.2.2, fun q => k0.2 (fun q' => q ⟨by omega, h2, q'⟩)⟩
theorem s_commaIn {I : Mem} {L : Nat} {x : Nat → Nat} (h : TXT I L x) {b e : Nat} (hb : b ≤ e) (he : e ≤ L) : (∀ m, b ≤ m → m < e → x m = 44 → (∀ j, b ≤ j → j < m → x j ≠ 44) → f_X6_commaIn (nI b) (nI e) I = some (nI m, I)) ∧ ((∀ j, b ≤ j → j < e → x j ≠ 44) → f_X6_commaIn (nI b) (nI e) I = some (-1, I)) := by
  obtain ⟨-, hL, hx⟩ := h
  unfold f_X6_commaIn
  have key : ∀ (d b f : Nat), b + d = e → d < f → (∀ m, b ≤ m → m < e → x m = 44 → (∀ j, b ≤ j → j < m → x j ≠ 44) → l_X6_commaIn_2 (fun (z2 : Int32) I3 => some (z2, I3)) (fun I4 => some ((-1 : Int32), I4)) f (nI e) (nI b) I = some (nI m, I)) ∧ ((∀ j, b ≤ j → j < e → x j ≠ 44) → l_X6_commaIn_2 (fun (z2 : Int32) I3 => some (z2, I3)) (fun I4 => some ((-1 : Int32), I4)) f (nI e) (nI b) I = some (-1, I)) := by
    intro d
    induction d with
    | zero =>
      intro b f hi hf
      obtain ⟨g, rfl⟩ : ∃ g, f = g + 1 := ⟨f - 1, by omega⟩
      rw [u_X6_commaIn_2]
      unfold b_X6_commaIn_2
      rw [if_pos (nI_le (by omega) (by omega))]
      exact ⟨fun m a b => by omega, fun _ => rfl⟩
    | succ d ih =>
      intro b f hi hf
      obtain ⟨g, rfl⟩ : ∃ g, f = g + 1 := ⟨f - 1, by omega⟩
      obtain ⟨x1, x2, x3⟩ := hx b (by omega)
      have ih' := ih (b + 1) g (by omega) (by omega)
      rw [u_X6_commaIn_2]
      unfold b_X6_commaIn_2
      rw [if_neg (nI_ge (by omega) (by omega)), ck_t (inb_n (show b < 200 by omega) (by decide)), nI_tn (by omega), x1, nI_1]
      by_cases e1 : x b = 44
      · rw [if_pos (show nI (x b) = 44 by rw [e1]; rfl)]
        refine ⟨fun m a a2 a3 a4 => ?_, fun q => absurd e1 (q b (Nat.le_refl _) (by omega))⟩
        have : m = b := by
          apply Nat.le_antisymm _ a
          apply Nat.le_of_not_lt
          intro hlt
          exact a4 b (Nat.le_refl _) hlt e1
        rw [this]
      · rw [if_neg (show ¬ nI (x b) = (44 : Int32) from fun q => e1 ((nI_eq (b := 44) (by omega) (by decide)).mp q))]
        refine ⟨fun m a a2 a3 a4 => ih'.1 m (by
          have : m ≠ b := fun q => e1 (by rw [← q]; exact a3)
          omega) a2 a3 (fun j b1 b2 => a4 j (by omega) b2), fun q => ih'.2 (fun j a b => q j (by omega) b)⟩
  exact key (e - b) b fuel (by omega) (by rw [fuel_v]; omega)
