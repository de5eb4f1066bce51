/-! TOOLS of the pure side: memories, ints, loops -/
theorem stm_row {I : Mem} {a k : Nat} {x : Int32} {i : Nat} (h : i ≠ a) : stm I a k x i = I i := by
  unfold stm upR
  rw [if_neg h]
theorem stm_at (I : Mem) (a k : Nat) (x : Int32) : stm I a k x a k = x := by
  unfold stm upR upd
  rw [if_pos rfl, if_pos rfl]
theorem stm_ne {I : Mem} {a k : Nat} {x : Int32} {j : Nat} (h : j ≠ k) : stm I a k x a j = I a j := by
  unfold stm upR upd
  rw [if_pos rfl, if_neg h]
theorem stm_get (I : Mem) (a k : Nat) (x : Int32) (i j : Nat) : stm I a k x i j = if i = a ∧ j = k then x else I i j := by
  by_cases h : i = a
  · subst h
    by_cases h2 : j = k
    · subst h2
      rw [stm_at, if_pos ⟨rfl, rfl⟩]
    · rw [stm_ne h2, if_neg (fun q => h2 q.2)]
  · rw [stm_row h, if_neg (fun q => h q.1)]
theorem upR_at (I : Mem) (a : Nat) (w : Nat → Int32) : upR I a w a = w := if_pos rfl
theorem upR_ne {I : Mem} {a : Nat} {w : Nat → Int32} {i : Nat} (h : i ≠ a) : upR I a w i = I i := if_neg h
theorem upR_up (I : Mem) (a : Nat) (w w' : Nat → Int32) : upR (upR I a w) a w' = upR I a w' := by
  funext i
  unfold upR
  by_cases h : i = a
  · rw [if_pos h, if_pos h]
  · rw [if_neg h, if_neg h, if_neg h]
theorem stm_upR (I : Mem) (a k : Nat) (w : Nat → Int32) (x : Int32) : stm (upR I a w) a k x = upR I a (upd w k x) := by
  unfold stm
  rw [upR_at, upR_up]
/-- the first k places of row a are v -/
def fil (I : Mem) (a : Nat) (v : Nat → Int32) (k : Nat) : Mem := upR I a (fun j => if j < k then v j else I a j)
theorem fil_0 (I : Mem) (a : Nat) (v : Nat → Int32) : fil I a v 0 = I := by
  funext i
  unfold fil upR
  by_cases h : i = a
  · rw [if_pos h, h]
    funext j
    exact if_neg (Nat.not_lt_zero j)
  · rw [if_neg h]
theorem fil_row {I : Mem} {a : Nat} {v : Nat → Int32} {k i : Nat} (h : i ≠ a) : fil I a v k i = I i := upR_ne h
theorem fil_lt {I : Mem} {a : Nat} {v : Nat → Int32} {k j : Nat} (h : j < k) : fil I a v k a j = v j := by
  unfold fil
  rw [upR_at, if_pos h]
theorem fil_ge {I : Mem} {a : Nat} {v : Nat → Int32} {k j : Nat} (h : k ≤ j) : fil I a v k a j = I a j := by
  unfold fil
  rw [upR_at, if_neg (Nat.not_lt.mpr h)]
theorem fil_s {I : Mem} {a : Nat} {v : Nat → Int32} {k : Nat} : stm (fil I a v k) a k (v k) = fil I a v (k + 1) := by
  unfold fil
  rw [stm_upR]
  congr 1
  funext j
  unfold upd
  by_cases h : j = k
  · rw [if_pos h, h, if_pos (Nat.lt_succ_self k)]
  · rw [if_neg h]
    show (if j < k then v j else I a j) = _
    by_cases h2 : j < k
    · rw [if_pos h2, if_pos (Nat.lt_succ_of_lt h2)]
    · rw [if_neg h2, if_neg (by omega)]
theorem fil_e {I : Mem} {a : Nat} {v : Nat → Int32} {k : Nat} {x : Int32} (h : x = v k) : stm (fil I a v k) a k x = fil I a v (k + 1) := by
  rw [h]
  exact fil_s
/-- a loop that fills a row from place 0 on -/
theorem fill_loop {β : Type} (L : Nat → Int32 → Mem → Option β) (K : Mem → Option β) (a n : Nat) (v : Nat → Int32) (I0 : Mem)
    (hs : ∀ f i, i < n → L (f + 1) (nI i) (fil I0 a v i) = L f (nI (i + 1)) (stm (fil I0 a v i) a i (v i)))
    (he : ∀ f, L (f + 1) (nI n) (fil I0 a v n) = K (fil I0 a v n)) : ∀ f, n < f → L f (nI 0) I0 = K (fil I0 a v n) := by
  have key : ∀ (d i f : Nat), i + d = n → d < f → L f (nI i) (fil I0 a v i) = K (fil I0 a v n) := by
    intro d
    induction d with
    | zero =>
      intro i f hi hf
      obtain ⟨g, rfl⟩ : ∃ g, f = g + 1 := ⟨f - 1, by omega⟩
      rw [show i = n by omega]
      exact he g
    | succ d ih =>
      intro i f hi hf
      obtain ⟨g, rfl⟩ : ∃ g, f = g + 1 := ⟨f - 1, by omega⟩
      rw [hs g i (by omega), fil_s]
      exact ih (i + 1) g (by omega) (by omega)
  intro f hf
  have := key n 0 f (by omega) hf
  rwa [fil_0] at this
/-- a loop by its states: index i has the state S i, it goes on below n and ends at n -/
theorem iter_loop {β σ : Type} (L : Nat → Int32 → σ → β) (k : β) (m n : Nat) (S : Nat → σ) (hmn : m ≤ n)
    (hs : ∀ f i, m ≤ i → i < n → L (f + 1) (nI i) (S i) = L f (nI (i + 1)) (S (i + 1)))
    (he : ∀ f, L (f + 1) (nI n) (S n) = k) : ∀ f, n < f + m → L f (nI m) (S m) = k := by
  have key : ∀ (d i f : Nat), m ≤ i → i + d = n → d < f → L f (nI i) (S i) = k := by
    intro d
    induction d with
    | zero =>
      intro i f hm hi hf
      obtain ⟨g, rfl⟩ : ∃ g, f = g + 1 := ⟨f - 1, by omega⟩
      rw [show i = n by omega]
      exact he g
    | succ d ih =>
      intro i f hm hi hf
      obtain ⟨g, rfl⟩ : ∃ g, f = g + 1 := ⟨f - 1, by omega⟩
      rw [hs g i hm (by omega)]
      exact ih (i + 1) g (by omega) (by omega) (by omega)
  intro f hf
  exact key (n - m) m f (Nat.le_refl m) (by omega) (by omega)
theorem fuel_v : fuel = 5000 := rfl
/-! ints -/
theorem lt_T {x y : Int32} : x < y ↔ x.toInt < y.toInt := Int32.lt_iff_toInt_lt
theorem le_T {x y : Int32} : x ≤ y ↔ x.toInt ≤ y.toInt := Int32.le_iff_toInt_le
theorem eq_T {x y : Int32} : x = y ↔ x.toInt = y.toInt := Int32.toInt_inj.symm
theorem add_T {x y : Int32} (h1 : -2147483648 ≤ x.toInt + y.toInt) (h2 : x.toInt + y.toInt < 2147483648) : (x + y).toInt = x.toInt + y.toInt := by
  rw [Int32.toInt_add]
  exact Int.bmod_eq_of_le (by omega) (by omega)
theorem sub_T {x y : Int32} (h1 : -2147483648 ≤ x.toInt - y.toInt) (h2 : x.toInt - y.toInt < 2147483648) : (x - y).toInt = x.toInt - y.toInt := by
  rw [Int32.toInt_sub]
  exact Int.bmod_eq_of_le (by omega) (by omega)
theorem nI_sub {a b : Nat} (h : b ≤ a) (ha : a < 2 ^ 31) : nI a - nI b = nI (a - b) := by
  apply eq_T.mpr
  rw [sub_T, nI_toInt ha, nI_toInt (by omega), nI_toInt (by omega)]
  · omega
  · rw [nI_toInt ha, nI_toInt (by omega)]; omega
  · rw [nI_toInt ha, nI_toInt (by omega)]; omega
theorem nI_mul (a b : Nat) : nI a * nI b = nI (a * b) := (Int32.ofNat_mul a b).symm
theorem nI_tn {n : Nat} (h : n < 2 ^ 31) : tn (nI n) = n := nI_clamp h
theorem inb_n {i n : Nat} (h : i < n) (h31 : n < 2 ^ 31) : inb (nI i) n = true := by
  unfold inb
  rw [Bool.and_eq_true, decide_eq_true_eq, decide_eq_true_eq, nI_clamp (by omega)]
  exact ⟨nI_pos' (by omega), h⟩
/-- an argument is one of 0 .. n - 1, or not -/
theorem arg_cases (x : Int32) (n : Nat) : (∃ k, k < n ∧ k < 2 ^ 31 ∧ x = nI k) ∨ (x.toInt < 0 ∨ (n : Int) ≤ x.toInt) := by
  by_cases h : x.toInt < 0
  · exact Or.inr (Or.inl h)
  · have h0 : ¬ x < 0 := fun q => h (lt_T.mp q)
    obtain ⟨j, hj, rfl⟩ := nI_of h0
    rw [nI_toInt hj]
    by_cases hn : j < n
    · exact Or.inl ⟨j, hn, hj, rfl⟩
    · exact Or.inr (Or.inr (by omega))
theorem lg_lt {x y : Int64} : lg_cmp x y < 0 ↔ x.toInt < y.toInt := by
  unfold lg_cmp
  by_cases h : x > y
  · rw [if_pos h]
    have h1 := Int64.lt_iff_toInt_lt.mp h
    constructor
    · intro q; exact absurd q (by decide)
    · intro q; omega
  · rw [if_neg h]
    by_cases h2 : x = y
    · rw [if_pos h2, h2]
      constructor
      · intro q; exact absurd q (by decide)
      · intro q; omega
    · rw [if_neg h2]
      have h3 : ¬ y.toInt < x.toInt := fun q => h (Int64.lt_iff_toInt_lt.mpr q)
      have h4 : x.toInt ≠ y.toInt := fun q => h2 (Int64.toInt_inj.mp q)
      constructor
      · intro _; omega
      · intro _; decide
theorem lg_gt {x y : Int64} : 0 < lg_cmp x y ↔ y.toInt < x.toInt := by
  unfold lg_cmp
  by_cases h : x > y
  · rw [if_pos h]
    have h1 := Int64.lt_iff_toInt_lt.mp h
    constructor
    · intro _; omega
    · intro _; decide
  · rw [if_neg h]
    have h3 : ¬ y.toInt < x.toInt := fun q => h (Int64.lt_iff_toInt_lt.mpr q)
    by_cases h2 : x = y
    · rw [if_pos h2]
      constructor
      · intro q; exact absurd q (by decide)
      · intro q; omega
    · rw [if_neg h2]
      constructor
      · intro q; exact absurd q (by decide)
      · intro q; omega
/-- the reference's in(..) -/
theorem f_in {x : Int64} {lo hi : Int64} {a b c : Int} (hx : x.toInt = a) (hl : lo.toInt = b) (hh : hi.toInt = c) (I : Mem) : f_X9_in x lo hi I = some (if b ≤ a ∧ a ≤ c then 1 else 0, I) := by
  subst hx; subst hl; subst hh
  unfold f_X9_in
  by_cases h1 : x.toInt < lo.toInt
  · rw [if_pos (lg_lt.mpr h1), if_neg (by omega)]
  · rw [if_neg (fun q => h1 (lg_lt.mp q))]
    by_cases h2 : hi.toInt < x.toInt
    · rw [if_pos (lg_gt.mpr h2), if_neg (by omega)]
    · rw [if_neg (fun q => h2 (lg_gt.mp q)), if_pos (by omega)]
theorem f_in32 (x : Int32) {lo hi : Int64} {b c : Int} (hl : lo.toInt = b) (hh : hi.toInt = c) (I : Mem) : f_X9_in x.toInt64 lo hi I = some (if b ≤ x.toInt ∧ x.toInt ≤ c then 1 else 0, I) := f_in (Int32.toInt_toInt64 x) hl hh I
