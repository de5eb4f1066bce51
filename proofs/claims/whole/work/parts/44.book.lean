/-! THE BOOK, in numbers -/
def pK (τ : Td) (k : Nat) : Nat := plF τ (τ 0) k
def cum (τ : Td) : Nat → Nat
  | 0 => 0
  | k + 1 => cum τ k + pK τ k
def tS (τ : Td) : Nat := pK τ 0 + pK τ 1 + pK τ 2 + pK τ 3
def scN (τ : Td) (j : Nat) : Nat := if j < pK τ 0 then 0 else if j < pK τ 0 + pK τ 1 then 1 else if j < pK τ 0 + pK τ 1 + pK τ 2 then 2 else 3
def hA (τ : Td) : Nat → Nat
  | 0 => 0
  | j + 1 => hA τ j + 2 * zt τ (scN τ j)
def pP (τ : Td) : Nat := 4 * un τ (τ 0)
theorem cum4 (τ : Td) : cum τ 1 = pK τ 0 ∧ cum τ 2 = pK τ 0 + pK τ 1 ∧ cum τ 3 = pK τ 0 + pK τ 1 + pK τ 2 ∧ cum τ 4 = tS τ := by
  refine ⟨?_, ?_, ?_, ?_⟩
  · show 0 + pK τ 0 = _; omega
  · show 0 + pK τ 0 + pK τ 1 = _; omega
  · show 0 + pK τ 0 + pK τ 1 + pK τ 2 = _; omega
  · show 0 + pK τ 0 + pK τ 1 + pK τ 2 + pK τ 3 = _; rw [Nat.zero_add]; rfl
theorem scN_in {τ : Td} {k j : Nat} (hk : k < 4) (h1 : cum τ k ≤ j) (h2 : j < cum τ k + pK τ k) : scN τ j = k := by
  obtain ⟨c1, c2, c3, c4⟩ := cum4 τ
  unfold scN
  match k, hk with
  | 0, _ => rw [if_pos]; have : cum τ 0 = 0 := rfl; omega
  | 1, _ => rw [c1] at h1 h2; rw [if_neg (by omega), if_pos (by omega)]
  | 2, _ => rw [c2] at h1 h2; rw [if_neg (by omega), if_neg (by omega), if_pos (by omega)]
  | 3, _ => rw [c3] at h1 h2; rw [if_neg (by omega), if_neg (by omega), if_neg (by omega)]
theorem scN_spec {τ : Td} {j : Nat} (h : j < tS τ) : scN τ j < 4 ∧ cum τ (scN τ j) ≤ j ∧ j < cum τ (scN τ j) + pK τ (scN τ j) := by
  obtain ⟨c1, c2, c3, c4⟩ := cum4 τ
  have c0 : cum τ 0 = 0 := rfl
  unfold tS at h
  unfold scN
  by_cases a0 : j < pK τ 0
  · rw [if_pos a0, c0]; omega
  · rw [if_neg a0]
    by_cases a1 : j < pK τ 0 + pK τ 1
    · rw [if_pos a1, c1]; omega
    · rw [if_neg a1]
      by_cases a2 : j < pK τ 0 + pK τ 1 + pK τ 2
      · rw [if_pos a2, c2]; omega
      · rw [if_neg a2, c3]; omega
theorem scN_S {τ : Td} {j : Nat} (h : j < tS τ) : scN τ j < τ 3 := by
  obtain ⟨h1, h2, h3⟩ := scN_spec h
  by_cases hc : scN τ j < τ 3
  · exact hc
  · have : pK τ (scN τ j) = 0 := plF_ge (by omega)
    omega
theorem hA_in {τ : Td} {k : Nat} (hk : k < 4) : ∀ i, i ≤ pK τ k → hA τ (cum τ k + i) = hA τ (cum τ k) + 2 * (i * zt τ k) := by
  intro i
  induction i with
  | zero => intro _; rw [Nat.zero_mul]; rfl
  | succ i ih =>
    intro hi
    show hA τ (cum τ k + i) + 2 * zt τ (scN τ (cum τ k + i)) = _
    rw [ih (by omega), scN_in hk (by omega) (by omega), Nat.add_mul, Nat.one_mul]
    omega
theorem hA_cum {τ : Td} (hW : WF τ) : ∀ k, k ≤ τ 3 → hA τ (cum τ k) + 2 * rsT τ (τ 0) k = 2 * un τ (τ 0) := by
  have hS := hW.2.2.2.1.2
  have hN := hW.1.2
  intro k
  induction k with
  | zero => intro _; show 0 + 2 * un τ (τ 0) = _; omega
  | succ k ih =>
    intro hk
    have h1 := ih (by omega)
    have h2 := hA_in (τ := τ) (show k < 4 by omega) (pK τ k) (Nat.le_refl _)
    have h3 : plF τ (τ 0) k * zt τ k ≤ rsT τ (τ 0) k := (plF_spec hW hN (show k < τ 3 by omega)).1
    have h4 := rsT_S (n := τ 0) (show k < τ 3 by omega)
    have h5 : cum τ (k + 1) = cum τ k + pK τ k := rfl
    rw [h5, h2, h4]
    show hA τ (cum τ k) + 2 * (plF τ (τ 0) k * zt τ k) + _ = _
    omega
theorem cum_S {τ : Td} (hW : WF τ) : cum τ (τ 3) = tS τ := by
  obtain ⟨h1, h4⟩ := hW.2.2.2.1
  obtain ⟨c1, c2, c3, c4⟩ := cum4 τ
  have hz : ∀ k, τ 3 ≤ k → pK τ k = 0 := fun k hk => plF_ge hk
  unfold tS
  rcases (show τ 3 = 1 ∨ τ 3 = 2 ∨ τ 3 = 3 ∨ τ 3 = 4 by omega) with e | e | e | e
  · rw [e, c1]; have := hz 1 (by omega); have := hz 2 (by omega); have := hz 3 (by omega); omega
  · rw [e, c2]; have := hz 2 (by omega); have := hz 3 (by omega); omega
  · rw [e, c3]; have := hz 3 (by omega); omega
  · rw [e, c4]; rfl
theorem hA_T {τ : Td} (hW : WF τ) : hA τ (tS τ) = 2 * un τ (τ 0) := by
  have h := hA_cum hW (τ 3) (Nat.le_refl _)
  rw [rsT_end hW hW.1.2, cum_S hW] at h
  omega
theorem hA_mono {τ : Td} : ∀ (d j : Nat), hA τ j ≤ hA τ (j + d) := by
  intro d
  induction d with
  | zero => intro j; exact Nat.le_refl _
  | succ d ih =>
    intro j
    have := ih j
    show hA τ j ≤ hA τ (j + d) + 2 * zt τ (scN τ (j + d))
    omega
theorem hA_le {τ : Td} {i j : Nat} (h : i ≤ j) : hA τ i ≤ hA τ j := by
  have := hA_mono (τ := τ) (j - i) i
  rwa [show i + (j - i) = j by omega] at this
theorem hA_lt {τ : Td} {i j : Nat} (h : i < j) : hA τ i + 2 * zt τ (scN τ i) ≤ hA τ j := hA_le (τ := τ) (show i + 1 ≤ j from h)
theorem zt_pos (τ : Td) (k : Nat) : 0 < zt τ k := Nat.pow_pos (by decide)
theorem hA_ge (τ : Td) : ∀ j, 2 * j ≤ hA τ j
  | 0 => Nat.le_refl _
  | j + 1 => by
    have := hA_ge τ j
    have := zt_pos τ (scN τ j)
    show 2 * (j + 1) ≤ hA τ j + 2 * zt τ (scN τ j)
    omega
theorem hA_ge2 {τ : Td} (hz : ∀ j, j < tS τ → 2 ≤ zt τ (scN τ j)) : ∀ j, j ≤ tS τ → 4 * j ≤ hA τ j
  | 0, _ => Nat.le_refl _
  | j + 1, h => by
    have := hA_ge2 hz j (by omega)
    have := hz j (by omega)
    show 4 * (j + 1) ≤ hA τ j + 2 * zt τ (scN τ j)
    omega
theorem tS_le {τ : Td} (hW : WF τ) : tS τ ≤ 100 := by
  have hN := hW.1.2
  have h1 := hA_ge τ (tS τ)
  have h2 := hA_T hW
  obtain ⟨u1, u2, -, u4⟩ := un_spec hW hN
  by_cases hex : ∃ k, k < τ 3 ∧ zt τ k = 1
  · obtain ⟨k, hk, hk1⟩ := hex
    have ho := okz_of hW
    have h3 := ls_mul ho hk ((τ 0 + 3) / 4)
    rw [hk1, Nat.mul_one] at h3
    have h4 := ls_down ho k 0 (by omega) (by rw [Nat.zero_add]; exact h3)
    have h5 : un τ (τ 0) ≤ (τ 0 + 3) / 4 := by
      apply Nat.le_of_not_lt
      intro hlt
      exact h4 (u4 _ (Nat.le_refl _) hlt)
    omega
  · have h3 := hA_ge2 (τ := τ) (fun j hj => by
      have h4 := zt_pos τ (scN τ j)
      have h5 : zt τ (scN τ j) ≠ 1 := fun e => hex ⟨_, scN_S hj, e⟩
      omega) (tS τ) (Nat.le_refl _)
    omega
theorem pP_le {τ : Td} (hW : WF τ) : pP τ ≤ 428 := by
  obtain ⟨u1, u2, -, u4⟩ := un_spec hW hW.1.2
  unfold pP
  omega
theorem pP_ge {τ : Td} (hW : WF τ) : τ 0 ≤ pP τ := by
  obtain ⟨u1, u2, -, u4⟩ := un_spec hW hW.1.2
  unfold pP
  omega
theorem tS_pos {τ : Td} (hW : WF τ) : 1 ≤ tS τ := by
  have h2 := hA_T hW
  have h3 := pP_ge hW
  have h4 := hW.1.1
  unfold pP at h3
  apply Nat.le_of_not_lt
  intro h
  rw [show tS τ = 0 by omega] at h2
  have : hA τ 0 = 0 := rfl
  omega
/-- pages of sheet j -/
def pgN (τ : Td) (j : Nat) : Nat := 4 * zt τ (scN τ j)
theorem pgN_pos (τ : Td) (j : Nat) : 4 ≤ pgN τ j := by
  have := zt_pos τ (scN τ j)
  unfold pgN
  omega
theorem pgN_le {τ : Td} (hW : WF τ) {j : Nat} (hj : j < tS τ) : pgN τ j ≤ 32 := by
  have := (okz_of hW _ (scN_S hj)).2.1
  unfold pgN
  omega
/-- the number of page q of sheet j -/
def num (τ : Td) (j q : Nat) : Nat := if τ 2 = 1 then (if 2 * zt τ (scN τ j) < q then pP τ - hA τ j - (pgN τ j - q) else hA τ j + q) else 2 * hA τ j + q
theorem num_bd {τ : Td} (hW : WF τ) {j q : Nat} (hj : j < tS τ) (h1 : 1 ≤ q) (h2 : q ≤ pgN τ j) : 1 ≤ num τ j q ∧ num τ j q ≤ pP τ := by
  have h3 := hA_lt (τ := τ) hj
  have h4 := hA_T hW
  unfold num pP pgN at *
  by_cases hm : τ 2 = 1
  · rw [if_pos hm]
    by_cases hq : 2 * zt τ (scN τ j) < q
    · rw [if_pos hq]; omega
    · rw [if_neg hq]; omega
  · rw [if_neg hm]; omega
theorem num_inj {τ : Td} (hW : WF τ) {j q j' q' : Nat} (hj : j < tS τ) (h1 : 1 ≤ q) (h2 : q ≤ pgN τ j) (hj' : j' < tS τ) (h1' : 1 ≤ q') (h2' : q' ≤ pgN τ j') (he : num τ j q = num τ j' q') : j = j' ∧ q = q' := by
  have h4 := hA_T hW
  have h3 := hA_lt (τ := τ) hj
  have h3' := hA_lt (τ := τ) hj'
  have hne : ¬ j < j' ∧ ¬ j' < j → j = j' := fun h => by omega
  have key : ∀ a b : Nat, a < b → hA τ a + 2 * zt τ (scN τ a) ≤ hA τ b := fun a b h => hA_lt h
  unfold num pP pgN at *
  have hjj : j = j' := by
    rcases Nat.lt_trichotomy j j' with h | h | h
    · have := key j j' h
      by_cases hm : τ 2 = 1
      · rw [if_pos hm, if_pos hm] at he
        by_cases hq : 2 * zt τ (scN τ j) < q
        · rw [if_pos hq] at he
          by_cases hq' : 2 * zt τ (scN τ j') < q'
          · rw [if_pos hq'] at he; omega
          · rw [if_neg hq'] at he; omega
        · rw [if_neg hq] at he
          by_cases hq' : 2 * zt τ (scN τ j') < q'
          · rw [if_pos hq'] at he; omega
          · rw [if_neg hq'] at he; omega
      · rw [if_neg hm, if_neg hm] at he; omega
    · exact h
    · have := key j' j h
      by_cases hm : τ 2 = 1
      · rw [if_pos hm, if_pos hm] at he
        by_cases hq : 2 * zt τ (scN τ j) < q
        · rw [if_pos hq] at he
          by_cases hq' : 2 * zt τ (scN τ j') < q'
          · rw [if_pos hq'] at he; omega
          · rw [if_neg hq'] at he; omega
        · rw [if_neg hq] at he
          by_cases hq' : 2 * zt τ (scN τ j') < q'
          · rw [if_pos hq'] at he; omega
          · rw [if_neg hq'] at he; omega
      · rw [if_neg hm, if_neg hm] at he; omega
  refine ⟨hjj, ?_⟩
  subst hjj
  by_cases hm : τ 2 = 1
  · rw [if_pos hm, if_pos hm] at he
    by_cases hq : 2 * zt τ (scN τ j) < q
    · rw [if_pos hq] at he
      by_cases hq' : 2 * zt τ (scN τ j) < q'
      · rw [if_pos hq'] at he; omega
      · rw [if_neg hq'] at he; omega
    · rw [if_neg hq] at he
      by_cases hq' : 2 * zt τ (scN τ j) < q'
      · rw [if_pos hq'] at he; omega
      · rw [if_neg hq'] at he; omega
  · rw [if_neg hm, if_neg hm] at he; omega
theorem hA_find {τ : Td} {r : Nat} (h1 : 1 ≤ r) : ∀ t, r ≤ hA τ t → ∃ j, j < t ∧ hA τ j < r ∧ r ≤ hA τ (j + 1)
  | 0, h => by
    have : hA τ 0 = 0 := rfl
    omega
  | t + 1, h => by
    by_cases h2 : r ≤ hA τ t
    · obtain ⟨j, a, b, c⟩ := hA_find h1 t h2
      exact ⟨j, by omega, b, c⟩
    · exact ⟨t, by omega, by omega, h⟩
theorem num_sur {τ : Td} (hW : WF τ) {r : Nat} (h1 : 1 ≤ r) (h2 : r ≤ pP τ) : ∃ j q, j < tS τ ∧ 1 ≤ q ∧ q ≤ pgN τ j ∧ num τ j q = r := by
  have h4 := hA_T hW
  unfold num pP pgN at *
  by_cases hm : τ 2 = 1
  · by_cases hr : r ≤ hA τ (tS τ)
    · obtain ⟨j, a, b, c⟩ := hA_find h1 _ hr
      have c' : r ≤ hA τ j + 2 * zt τ (scN τ j) := c
      exact ⟨j, r - hA τ j, a, by omega, by omega, by rw [if_pos hm, if_neg (by omega)]; omega⟩
    · obtain ⟨j, a, b, c⟩ := hA_find (τ := τ) (r := 4 * un τ (τ 0) - r + 1) (by omega) (tS τ) (by omega)
      have c' : 4 * un τ (τ 0) - r + 1 ≤ hA τ j + 2 * zt τ (scN τ j) := c
      exact ⟨j, r + hA τ j + 4 * zt τ (scN τ j) - 4 * un τ (τ 0), a, by omega, by omega, by rw [if_pos hm, if_pos (by omega)]; omega⟩
  · obtain ⟨j, a, b, c⟩ := hA_find (τ := τ) (r := (r + 1) / 2) (by omega) (tS τ) (by omega)
    have c' : (r + 1) / 2 ≤ hA τ j + 2 * zt τ (scN τ j) := c
    exact ⟨j, r - 2 * hA τ j, a, by omega, by omega, by rw [if_neg hm]; omega⟩
/-- a loop by what holds: index i has P i, it goes on below n and ends at n -/
theorem inv_loop {β σ : Type} (L : Nat → Int32 → σ → β) (K : σ → β) (P : Nat → σ → Prop) (m n : Nat) (hmn : m ≤ n)
    (hs : ∀ f i s, m ≤ i → i < n → P i s → ∃ s', P (i + 1) s' ∧ L (f + 1) (nI i) s = L f (nI (i + 1)) s')
    (he : ∀ f s, P n s → L (f + 1) (nI n) s = K s) : ∀ f s, n < f + m → P m s → ∃ s', P n s' ∧ L f (nI m) s = K s' := by
  have key : ∀ (d i f : Nat) (s : σ), m ≤ i → i + d = n → d < f → P i s → ∃ s', P n s' ∧ L f (nI i) s = K s' := by
    intro d
    induction d with
    | zero =>
      intro i f s hm hi hf hP
      obtain ⟨g, rfl⟩ : ∃ g, f = g + 1 := ⟨f - 1, by omega⟩
      have e : i = n := by omega
      subst e
      exact ⟨s, hP, he g s hP⟩
    | succ d ih =>
      intro i f s hm hi hf hP
      obtain ⟨g, rfl⟩ : ∃ g, f = g + 1 := ⟨f - 1, by omega⟩
      obtain ⟨s', h1, h2⟩ := hs g i s hm (by omega) hP
      rw [h2]
      exact ih (i + 1) g s' (by omega) (by omega) (by omega) h1
  intro f s hf hP
  exact key (n - m) m f s (Nat.le_refl m) (by omega) (by omega) hP
