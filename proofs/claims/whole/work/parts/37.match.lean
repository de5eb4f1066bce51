/-! BOTH WAYS TELL THE SAME: by count over all 170 texts of folds -/
def beh (q : Nat) : Nat := if q % 2 = 1 then q + 1 else q - 1
def ckP (n c p : Nat) : Bool := decide (tn (ceI n c p) < 2 ^ n) && (ceI n c p == nI (tn (ceI n c p))) && (tuI n c p == ovI n c (tn (ceI n c p))) && ((siI n c p == 0 && frI n c (tn (ceI n c p)) == nI (p + 1)) || (siI n c p == 1 && frI n c (tn (ceI n c p)) == nI (beh (p + 1)))) && (tuI n c p == 0 || tuI n c p == 1)
def ckC (n c x : Nat) : Bool := decide (1 ≤ tn (frI n c x)) && decide (tn (frI n c x) ≤ 2 * 2 ^ n) && (frI n c x == nI (tn (frI n c x))) && (ceI n c (tn (frI n c x) - 1) == nI x)
def vldB (n c : Nat) : Bool := decide (c < 4 ^ n) && (c % 4 == 1 || c % 4 == 2)
def ckN (n lo hi : Nat) : Bool := (List.range (hi - lo)).all fun d => !(vldB n (lo + d)) || ((List.range (2 * 2 ^ n)).all (ckP n (lo + d)) && (List.range (2 ^ n)).all (ckC n (lo + d)))
theorem ckN1 : ckN 1 0 256 = true := by decide +kernel
theorem ckN2 : ckN 2 0 256 = true := by decide +kernel
theorem ckN3 : ckN 3 0 256 = true := by decide +kernel
theorem ckN4_0 : ckN 4 0 32 = true := by decide +kernel
theorem ckN4_1 : ckN 4 32 64 = true := by decide +kernel
theorem ckN4_2 : ckN 4 64 96 = true := by decide +kernel
theorem ckN4_3 : ckN 4 96 128 = true := by decide +kernel
theorem ckN4_4 : ckN 4 128 160 = true := by decide +kernel
theorem ckN4_5 : ckN 4 160 192 = true := by decide +kernel
theorem ckN4_6 : ckN 4 192 224 = true := by decide +kernel
theorem ckN4_7 : ckN 4 224 256 = true := by decide +kernel
theorem ckN_of {n lo hi c : Nat} (h : ckN n lo hi = true) (h1 : lo ≤ c) (h2 : c < hi) (hv : vldB n c = true) : (∀ p, p < 2 * 2 ^ n → ckP n c p = true) ∧ ∀ x, x < 2 ^ n → ckC n c x = true := by
  have h3 := List.all_eq_true.mp h (c - lo) (List.mem_range.mpr (by omega))
  rw [show lo + (c - lo) = c by omega, hv] at h3
  simp only [Bool.not_true, Bool.false_or, Bool.and_eq_true] at h3
  exact ⟨fun p hp => List.all_eq_true.mp h3.1 p (List.mem_range.mpr hp), fun x hx => List.all_eq_true.mp h3.2 x (List.mem_range.mpr hx)⟩
theorem ck_all {n c : Nat} (hv : vld n c) : (∀ p, p < 2 * 2 ^ n → ckP n c p = true) ∧ ∀ x, x < 2 ^ n → ckC n c x = true := by
  obtain ⟨h1, h4, hc, hl⟩ := hv
  have hb : vldB n c = true := by
    unfold vldB
    rw [Bool.and_eq_true, decide_eq_true_eq, Bool.or_eq_true, beq_iff_eq, beq_iff_eq]
    exact ⟨hc, hl⟩
  have hc256 : c < 256 := Nat.lt_of_lt_of_le hc (Nat.pow_le_pow_right (by decide) h4)
  match n, h1, h4 with
  | 1, _, _ => exact ckN_of ckN1 (Nat.zero_le _) hc256 hb
  | 2, _, _ => exact ckN_of ckN2 (Nat.zero_le _) hc256 hb
  | 3, _, _ => exact ckN_of ckN3 (Nat.zero_le _) hc256 hb
  | 4, _, _ =>
    rcases Nat.lt_or_ge c 32 with h | h
    · exact ckN_of ckN4_0 (Nat.zero_le _) h hb
    rcases Nat.lt_or_ge c 64 with h5 | h5
    · exact ckN_of ckN4_1 h h5 hb
    rcases Nat.lt_or_ge c 96 with h6 | h6
    · exact ckN_of ckN4_2 h5 h6 hb
    rcases Nat.lt_or_ge c 128 with h7 | h7
    · exact ckN_of ckN4_3 h6 h7 hb
    rcases Nat.lt_or_ge c 160 with h8 | h8
    · exact ckN_of ckN4_4 h7 h8 hb
    rcases Nat.lt_or_ge c 192 with h9 | h9
    · exact ckN_of ckN4_5 h8 h9 hb
    rcases Nat.lt_or_ge c 224 with h10 | h10
    · exact ckN_of ckN4_6 h9 h10 hb
    · exact ckN_of ckN4_7 h10 hc256 hb
/-- page p + 1: its cell, its side, the way up -/
theorem G1 {n c p : Nat} (hv : vld n c) (hp : p < 2 * 2 ^ n) : ∃ x, x < 2 ^ n ∧ ceI n c p = nI x ∧ tuI n c p = ovI n c x ∧ ((siI n c p = 0 ∧ frI n c x = nI (p + 1)) ∨ (siI n c p = 1 ∧ frI n c x = nI (beh (p + 1)))) ∧ (tuI n c p = 0 ∨ tuI n c p = 1) := by
  have h := (ck_all hv).1 p hp
  unfold ckP at h
  simp only [Bool.and_eq_true, Bool.or_eq_true, decide_eq_true_eq, beq_iff_eq] at h
  obtain ⟨⟨⟨⟨a1, a2⟩, a3⟩, a4⟩, a5⟩ := h
  exact ⟨tn (ceI n c p), a1, a2, a3, a4, a5⟩
/-- the page on the front of cell x -/
theorem G2 {n c x : Nat} (hv : vld n c) (hx : x < 2 ^ n) : ∃ q, 1 ≤ q ∧ q ≤ 2 * 2 ^ n ∧ frI n c x = nI q ∧ ceI n c (q - 1) = nI x := by
  have h := (ck_all hv).2 x hx
  unfold ckC at h
  simp only [Bool.and_eq_true, decide_eq_true_eq, beq_iff_eq] at h
  obtain ⟨⟨⟨a1, a2⟩, a3⟩, a4⟩ := h
  exact ⟨tn (frI n c x), a1, a2, a3, a4⟩
