/-! THE PLAN: least prices, in numbers -/
def omin : Option Nat → Option Nat → Option Nat
  | none, b => b
  | some a, none => some a
  | some a, some b => some (min a b)
/-- the least price of just u units of a scheme of z units and price p, and of what r tells -/
def dp (z p : Nat) (r : Nat → Option Nat) (u : Nat) : Option Nat :=
  omin (r u) (if h : 0 < z ∧ z ≤ u then (dp z p r (u - z)).map (fun c => c + p) else none)
termination_by u
decreasing_by omega
def lsD (z p : Nat → Nat) (S : Nat) : Nat → Nat → Option Nat
  | 0 => fun u => if u = 0 then some 0 else none
  | d + 1 => dp (z (S - (d + 1))) (p (S - (d + 1))) (lsD z p S d)
def ls (z p : Nat → Nat) (S k u : Nat) : Option Nat := lsD z p S (S - k) u
theorem ls_S (z p : Nat → Nat) (S u : Nat) : ls z p S S u = if u = 0 then some 0 else none := by
  unfold ls
  rw [Nat.sub_self]
  rfl
theorem ls_k {z p : Nat → Nat} {S k : Nat} (hk : k < S) (hz : 0 < z k) (u : Nat) : ls z p S k u = omin (ls z p S (k + 1) u) (if z k ≤ u then (ls z p S k (u - z k)).map (fun c => c + p k) else none) := by
  unfold ls
  obtain ⟨d, hd⟩ : ∃ d, S - k = d + 1 := ⟨S - k - 1, by omega⟩
  have e1 : S - (k + 1) = d := by omega
  have e2 : S - (d + 1) = k := by omega
  rw [hd, e1]
  show dp (z (S - (d + 1))) (p (S - (d + 1))) (lsD z p S d) u = omin (lsD z p S d u) (if z k ≤ u then (dp (z (S - (d + 1))) (p (S - (d + 1))) (lsD z p S d) (u - z k)).map (fun c => c + p k) else none)
  rw [e2]
  rw [dp]
  by_cases h : z k ≤ u
  · rw [dif_pos ⟨hz, h⟩, if_pos h]
  · rw [dif_neg (fun q => h q.2), if_neg h]
theorem omin_some {a b : Option Nat} {c : Nat} (h : omin a b = some c) : (a = some c ∨ b = some c) := by
  cases a with
  | none => exact Or.inr h
  | some x =>
    cases b with
    | none => exact Or.inl h
    | some y =>
      have : min x y = c := Option.some.inj h
      rcases Nat.le_total x y with q | q
      · exact Or.inl (by rw [← this, Nat.min_eq_left q])
      · exact Or.inr (by rw [← this, Nat.min_eq_right q])
theorem omin_isSome {a b : Option Nat} (h : a ≠ none ∨ b ≠ none) : omin a b ≠ none := by
  cases a with
  | none => exact h.resolve_left (fun q => q rfl)
  | some x => cases b <;> simp [omin]
/-- schemes as they are: 1 to 8 units, prices up to 99 -/
def okz (z p : Nat → Nat) (S : Nat) : Prop := ∀ k, k < S → 0 < z k ∧ z k ≤ 8 ∧ p k ≤ 99
theorem ls_bound {z p : Nat → Nat} {S : Nat} (ho : okz z p S) : ∀ (d k u c : Nat), k + d = S → ls z p S k u = some c → c ≤ 99 * u := by
  intro d
  induction d with
  | zero =>
    intro k u c hk h
    rw [show k = S by omega, ls_S] at h
    by_cases hu : u = 0
    · rw [if_pos hu] at h
      have := Option.some.inj h
      omega
    · rw [if_neg hu] at h
      cases h
  | succ d ih =>
    intro k u
    induction u using Nat.strongRecOn with
    | ind u ihu =>
      intro c hk h
      obtain ⟨hz, hz8, hp⟩ := ho k (by omega)
      rw [ls_k (by omega) hz] at h
      rcases omin_some h with h | h
      · exact ih (k + 1) u c (by omega) h
      · by_cases hzu : z k ≤ u
        · rw [if_pos hzu] at h
          obtain ⟨c', h1, h2⟩ := Option.map_eq_some_iff.mp h
          have := ihu (u - z k) (by omega) c' hk h1
          have : 99 * (u - z k) + 99 * z k = 99 * u := by rw [← Nat.mul_add]; congr 1; omega
          have : 99 ≤ 99 * z k := Nat.le_mul_of_pos_right 99 hz
          omega
        · rw [if_neg hzu] at h
          cases h
theorem ls_le {z p : Nat → Nat} {S : Nat} (ho : okz z p S) {k u c : Nat} (hk : k ≤ S) (h : ls z p S k u = some c) : c ≤ 99 * u := ls_bound ho (S - k) k u c (by omega) h
/-- some number of sheets of scheme k does it -/
theorem ls_exists {z p : Nat → Nat} {S : Nat} (ho : okz z p S) {k : Nat} (hk : k < S) : ∀ (u c : Nat), ls z p S k u = some c → ∃ m c', m * z k ≤ u ∧ ls z p S (k + 1) (u - m * z k) = some c' ∧ c' + m * p k = c := by
  intro u
  induction u using Nat.strongRecOn with
  | ind u ihu =>
    intro c h
    obtain ⟨hz, -, -⟩ := ho k hk
    rw [ls_k hk hz] at h
    rcases omin_some h with h | h
    · exact ⟨0, c, by omega, by rw [Nat.zero_mul]; exact h, by omega⟩
    · by_cases hzu : z k ≤ u
      · rw [if_pos hzu] at h
        obtain ⟨c', h1, h2⟩ := Option.map_eq_some_iff.mp h
        obtain ⟨m, c2, a1, a2, a3⟩ := ihu (u - z k) (by omega) c' h1
        refine ⟨m + 1, c2, ?_, ?_, ?_⟩
        · rw [Nat.add_mul, Nat.one_mul]; omega
        · rw [Nat.add_mul, Nat.one_mul, show u - (m * z k + z k) = u - z k - m * z k by omega]; exact a2
        · rw [Nat.add_mul, Nat.one_mul]; omega
      · rw [if_neg hzu] at h
        cases h
theorem ls_up {z p : Nat → Nat} {S : Nat} (ho : okz z p S) {k : Nat} (hk : k < S) {u : Nat} (h : ls z p S (k + 1) u ≠ none) : ls z p S k u ≠ none := by
  rw [ls_k hk (ho k hk).1]
  exact omin_isSome (Or.inl h)
theorem ls_0 {z p : Nat → Nat} {S : Nat} (ho : okz z p S) : ∀ (d k : Nat), k + d = S → ls z p S k 0 ≠ none := by
  intro d
  induction d with
  | zero =>
    intro k hk
    rw [show k = S by omega, ls_S, if_pos rfl]
    simp
  | succ d ih => intro k hk; exact ls_up ho (by omega) (ih (k + 1) (by omega))
theorem ls_mul {z p : Nat → Nat} {S : Nat} (ho : okz z p S) {k : Nat} (hk : k < S) : ∀ m, ls z p S k (m * z k) ≠ none := by
  intro m
  induction m with
  | zero => rw [Nat.zero_mul]; exact ls_0 ho (S - k) k (by omega)
  | succ m ih =>
    obtain ⟨hz, -, -⟩ := ho k hk
    rw [ls_k hk hz, Nat.add_mul, Nat.one_mul]
    apply omin_isSome
    right
    rw [if_pos (by omega), Nat.add_sub_cancel]
    cases h : ls z p S k (m * z k) with
    | none => exact absurd h ih
    | some c => simp
theorem ls_down {z p : Nat → Nat} {S : Nat} (ho : okz z p S) {u : Nat} : ∀ (j k : Nat), k + j < S → ls z p S (k + j) u ≠ none → ls z p S k u ≠ none := by
  intro j
  induction j with
  | zero => intro k _ h; exact h
  | succ j ih =>
    intro k hk h
    have := ih (k + 1) (by omega) (by rw [show k + 1 + j = k + (j + 1) by omega]; exact h)
    exact ls_up ho (by omega) this
/-- the first place from u on where P holds, at most f further -/
def unF (P : Nat → Bool) : Nat → Nat → Nat
  | 0, u => u
  | f + 1, u => if P u = true then u else unF P f (u + 1)
theorem unF_spec (P : Nat → Bool) : ∀ (f u : Nat), (∃ j, j ≤ f ∧ P (u + j) = true) → u ≤ unF P f u ∧ unF P f u ≤ u + f ∧ P (unF P f u) = true ∧ ∀ v, u ≤ v → v < unF P f u → P v = false := by
  intro f
  induction f with
  | zero =>
    intro u ⟨j, h1, h2⟩
    rw [show j = 0 by omega] at h2
    exact ⟨Nat.le_refl _, Nat.le_refl _, h2, fun v a b => by have : v < u := b; omega⟩
  | succ f ih =>
    intro u ⟨j, h1, h2⟩
    unfold unF
    by_cases h : P u = true
    · rw [if_pos h]
      exact ⟨Nat.le_refl _, by omega, h, fun v a b => by omega⟩
    · rw [if_neg h]
      have hj : j ≠ 0 := fun e => h (by rw [e] at h2; exact h2)
      obtain ⟨a1, a2, a3, a4⟩ := ih (u + 1) ⟨j - 1, by omega, by rw [show u + 1 + (j - 1) = u + j by omega]; exact h2⟩
      refine ⟨by omega, by omega, a3, fun v b1 b2 => ?_⟩
      by_cases e : v = u
      · rw [e]; exact Bool.eq_false_iff.mpr h
      · exact a4 v (by omega) b2
/-- the greatest number up to m where P holds, else 0 -/
def moF (P : Nat → Bool) : Nat → Nat
  | 0 => 0
  | m + 1 => if P (m + 1) = true then m + 1 else moF P m
theorem moF_le (P : Nat → Bool) : ∀ m, moF P m ≤ m
  | 0 => Nat.le_refl _
  | m + 1 => by
    unfold moF
    by_cases h : P (m + 1) = true
    · rw [if_pos h]; exact Nat.le_refl _
    · rw [if_neg h]; have := moF_le P m; omega
theorem moF_P (P : Nat → Bool) : ∀ m, (∃ j, j ≤ m ∧ P j = true) → P (moF P m) = true ∧ ∀ j, moF P m < j → j ≤ m → P j = false
  | 0, ⟨j, h1, h2⟩ => ⟨by rw [show j = 0 by omega] at h2; exact h2, fun j a b => by have : moF P 0 = 0 := rfl; omega⟩
  | m + 1, ⟨j, h1, h2⟩ => by
    unfold moF
    by_cases h : P (m + 1) = true
    · rw [if_pos h]
      exact ⟨h, fun j a b => by omega⟩
    · rw [if_neg h]
      have hj : j ≠ m + 1 := fun e => h (by rw [← e]; exact h2)
      obtain ⟨a1, a2⟩ := moF_P P m ⟨j, by omega, h2⟩
      refine ⟨a1, fun j b1 b2 => ?_⟩
      by_cases e : j = m + 1
      · rw [e]; exact Bool.eq_false_iff.mpr h
      · exact a2 j b1 (by omega)
/-- m sheets of scheme k do it for u units -/
def Pm (z p : Nat → Nat) (S k u m : Nat) : Bool := match ls z p S (k + 1) (u - m * z k), ls z p S k u with
  | some c', some c => decide (c' + m * p k = c)
  | _, _ => false
def mo (z p : Nat → Nat) (S k u : Nat) : Nat := moF (Pm z p S k u) (u / z k)
/-- the units that are left ahead of scheme k -/
def rs (z p : Nat → Nat) (S u : Nat) : Nat → Nat
  | 0 => u
  | k + 1 => rs z p S u k - mo z p S k (rs z p S u k) * z k
theorem mo_spec {z p : Nat → Nat} {S : Nat} (ho : okz z p S) {k : Nat} (hk : k < S) {u c : Nat} (h : ls z p S k u = some c) : mo z p S k u * z k ≤ u ∧ ∃ c', ls z p S (k + 1) (u - mo z p S k u * z k) = some c' ∧ c' + mo z p S k u * p k = c := by
  obtain ⟨hz, -, -⟩ := ho k hk
  obtain ⟨m, c1, a1, a2, a3⟩ := ls_exists ho hk u c h
  have hm : m ≤ u / z k := (Nat.le_div_iff_mul_le hz).mpr a1
  have hP : Pm z p S k u m = true := by
    unfold Pm
    rw [a2, h]
    exact decide_eq_true a3
  have h1 := (moF_P (Pm z p S k u) (u / z k) ⟨m, hm, hP⟩).1
  have h2 := moF_le (Pm z p S k u) (u / z k)
  refine ⟨(Nat.le_div_iff_mul_le hz).mp h2, ?_⟩
  show ∃ c', ls z p S (k + 1) (u - moF (Pm z p S k u) (u / z k) * z k) = some c' ∧ c' + moF (Pm z p S k u) (u / z k) * p k = c
  generalize moF (Pm z p S k u) (u / z k) = mm at h1
  unfold Pm at h1
  rw [h] at h1
  cases hh : ls z p S (k + 1) (u - mm * z k) with
  | none => rw [hh] at h1; cases h1
  | some c' => rw [hh] at h1; exact ⟨c', rfl, of_decide_eq_true h1⟩
theorem rs_some {z p : Nat → Nat} {S : Nat} (ho : okz z p S) {u : Nat} (h : ls z p S 0 u ≠ none) : ∀ k, k ≤ S → ls z p S k (rs z p S u k) ≠ none := by
  intro k
  induction k with
  | zero => intro _; exact h
  | succ k ih =>
    intro hk
    have := ih (by omega)
    cases hc : ls z p S k (rs z p S u k) with
    | none => exact absurd hc this
    | some c =>
      obtain ⟨-, c', h1, -⟩ := mo_spec ho (show k < S by omega) hc
      show ls z p S (k + 1) (rs z p S u k - mo z p S k (rs z p S u k) * z k) ≠ none
      rw [h1]
      simp
theorem rs_end {z p : Nat → Nat} {S : Nat} (ho : okz z p S) {u : Nat} (h : ls z p S 0 u ≠ none) : rs z p S u S = 0 := by
  have := rs_some ho h S (Nat.le_refl _)
  rw [ls_S] at this
  by_cases e : rs z p S u S = 0
  · exact e
  · rw [if_neg e] at this
    exact absurd rfl this
