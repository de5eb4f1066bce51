/-! THE PLAN: the class -/
def zt (τ : Td) : Nat → Nat := fun k => 2 ^ (τ (8 + k) - 1)
def pt (τ : Td) : Nat → Nat := fun k => τ (4 + k)
/-- least price of just u units, by schemes from k on -/
def lt' (τ : Td) (k u : Nat) : Option Nat := ls (zt τ) (pt τ) (τ 3) k u
theorem okz_of {τ : Td} (hW : WF τ) : okz (zt τ) (pt τ) (τ 3) := by
  intro k hk
  obtain ⟨h1, h2⟩ := hW.2.2.2.2.1 k hk
  obtain ⟨a, b, -⟩ := h2
  refine ⟨Nat.pow_pos (by decide), ?_, h1⟩
  show 2 ^ (τ (8 + k) - 1) ≤ 8
  have : 2 ^ (τ (8 + k) - 1) ≤ 2 ^ 3 := Nat.pow_le_pow_right (by decide) (by omega)
  exact this
def eX (o : Option Nat) : Int32 := match o with
  | none => -1
  | some c => nI c
theorem nI_m1 {c : Nat} (h : c < 2 ^ 31) : ¬ nI c = -1 := by
  intro e
  have := congrArg Int32.toInt e
  rw [nI_toInt h, show (-1 : Int32).toInt = -1 by decide] at this
  omega
theorem nI_div {a b : Nat} (ha : a < 2 ^ 31) (hb : b < 2 ^ 31) : nI a / nI b = nI (a / b) := by
  have h1 : a / b ≤ a := Nat.div_le_self a b
  apply eq_T.mpr
  rw [Int32.toInt_div, nI_toInt ha, nI_toInt hb, nI_toInt (by omega)]
  rw [show Int.tdiv (a : Int) (b : Int) = ((a / b : Nat) : Int) by rw [Int.tdiv_eq_ediv_of_nonneg (by omega)]; exact (Int.natCast_ediv a b).symm]
  generalize a / b = q at h1
  exact Int.bmod_eq_of_le (by omega) (by omega)
theorem untT : ∀ n, n < 5 → 1 ≤ n → nI (2 * 2 ^ n) / 4 = nI (2 ^ (n - 1)) := by decide +kernel
theorem s_unitsOf {I : Mem} {τ : Td} {k : Nat} (hW : WF τ) (hT : TX I 3 τ) (hk : k < τ 3) : f_X7_unitsOf (nI k) I = some (nI (zt τ k), I) := by
  have hS := hW.2.2.2.1.2
  obtain ⟨hn, hn1, -⟩ := vld_n (hW.2.2.2.2.1 k hk).2
  obtain ⟨t1, t2, t3⟩ := hT.2.2.1 k hk
  unfold f_X7_unitsOf
  rw [ck_t (inb_n (show k < 4 by omega) (by decide)), nI_tn (by omega), t1, twoT _ hn, untT _ hn hn1]
  rfl
/-- rows from k on are weighed -/
def LX (I : Mem) (τ : Td) (k : Nat) : Prop := ∀ j, k ≤ j → j ≤ τ 3 → ∀ u, u < 108 → I (78 + j) u = eX (lt' τ j u)
theorem s_withOne {M : Mem} {τ : Td} {k u : Nat} (hW : WF τ) (hT : TX M 3 τ) (hk : k < τ 3) (hu : u < 108) (hr : zt τ k ≤ u → M (78 + k) (u - zt τ k) = eX (lt' τ k (u - zt τ k))) : f_X4_withOneOf_76_3 (nI k) (nI u) M = some (eX (if zt τ k ≤ u then (lt' τ k (u - zt τ k)).map (fun c => c + pt τ k) else none), M) := by
  have hS := hW.2.2.2.1.2
  obtain ⟨hz, hz8, hp⟩ := okz_of hW k hk
  obtain ⟨t1, t2, t3⟩ := hT.2.2.1 k hk
  unfold f_X4_withOneOf_76_3
  rw [s_unitsOf hW hT hk, bI_some]
  by_cases h : zt τ k ≤ u
  · rw [nI_sub h (by omega), if_neg (nI_pos (by omega)), ck_t (inb_n (show k < 5 by omega) (by decide)), ck_t (inb_n (show u - zt τ k < 108 by omega) (by decide)), nI_tn (by omega), nI_tn (by omega), hr h, if_pos h]
    cases hc : lt' τ k (u - zt τ k) with
    | none => rfl
    | some c =>
      have hb := ls_le (okz_of hW) (Nat.le_of_lt hk) hc
      show (if nI c = -1 then _ else _) = _
      rw [if_neg (nI_m1 (by omega)), ck_t (inb_n (show k < 5 by omega) (by decide)), ck_t (inb_n (show u - zt τ k < 108 by omega) (by decide)), ck_t (inb_n (show k < 4 by omega) (by decide)), t3]
      show some (nI c + nI (τ (4 + k)), M) = some (nI (c + pt τ k), M)
      rw [nI_add]
      rfl
  · have e1 : (nI u - nI (zt τ k)) < 0 := by
      apply lt_T.mpr
      rw [sub_T (by rw [nI_toInt (by omega), nI_toInt (by omega)]; omega) (by rw [nI_toInt (by omega), nI_toInt (by omega)]; omega), nI_toInt (by omega), nI_toInt (by omega), show (0 : Int32).toInt = 0 by decide]
      omega
    rw [if_pos e1, if_neg h]
    rfl
theorem s_cheaper {a b : Option Nat} (ha : ∀ c, a = some c → c < 2 ^ 30) (hb : ∀ c, b = some c → c < 2 ^ 30) (M : Mem) : f_X4_cheaper (eX a) (eX b) M = some (eX (omin a b), M) := by
  unfold f_X4_cheaper
  cases a with
  | none => exact if_pos rfl
  | some x =>
    have hx := ha x rfl
    show (if nI x = -1 then _ else _) = _
    rw [if_neg (nI_m1 (by omega))]
    cases b with
    | none => exact if_pos rfl
    | some y =>
      have hy := hb y rfl
      show (if nI y = -1 then _ else some ((if nI y < nI x then nI y else nI x), M)) = some (nI (min x y), M)
      rw [if_neg (nI_m1 (by omega))]
      by_cases h : y < x
      · rw [if_pos (nI_lt h (by omega)), Nat.min_eq_right (by omega)]
      · rw [if_neg (nI_nlt (by omega) (by omega)), Nat.min_eq_left (by omega)]
theorem s_weigh1 (K34 : Mem → Option Mem) {I : Mem} {τ : Td} (hW : WF τ) (hT : TX I 3 τ) : l_X4_weigh_76_3_2 K34 fuel 0 I = K34 (fil I (78 + τ 3) (fun u => eX (lt' τ (τ 3) u)) 108) := by
  have hS := hW.2.2.2.1.2
  refine fill_loop (l_X4_weigh_76_3_2 K34) K34 (78 + τ 3) 108 (fun u => eX (lt' τ (τ 3) u)) I ?_ ?_ fuel (by rw [fuel_v]; decide)
  · intro f i hi
    rw [u_X4_weigh_76_3_2]
    unfold b_X4_weigh_76_3_2
    rw [if_neg (show ¬ (108 : Int32) ≤ nI i from nI_ge hi (by decide)), fil_row (show 3 ≠ 78 + τ 3 by omega), hT.1, ck_t (inb_n (show τ 3 < 5 by omega) (by decide)), ck_t (inb_n hi (by decide)), nI_tn (by omega), nI_tn (by omega), nI_1]
    show _ = l_X4_weigh_76_3_2 K34 f (nI (i + 1)) (stm _ _ _ (eX (ls _ _ (τ 3) (τ 3) i)))
    rw [ls_S]
    by_cases h0 : i = 0
    · rw [if_pos (show nI i = 0 by rw [h0]; rfl), if_pos h0]
      rfl
    · rw [if_neg (show ¬ nI i = 0 from nI_ne0 (by omega) (by omega)), ck_t (inb_n hi (by decide)), if_neg h0]
      rfl
  · intro f
    rw [u_X4_weigh_76_3_2]
    unfold b_X4_weigh_76_3_2
    rw [if_pos (by decide)]
theorem s_weigh2 (K87 : Int32 → Mem → Option Mem) {I : Mem} {τ : Td} {k : Nat} (hW : WF τ) (hT : TX I 3 τ) (hk : k < τ 3) (hL : LX I τ (k + 1)) : l_X4_weigh_76_3_47 K87 fuel (nI k) 0 I = K87 (nI k) (fil I (78 + k) (fun u => eX (lt' τ k u)) 108) := by
  have hS := hW.2.2.2.1.2
  have ho := okz_of hW
  refine fill_loop (fun f x M => l_X4_weigh_76_3_47 K87 f (nI k) x M) (fun M => K87 (nI k) M) (78 + k) 108 (fun u => eX (lt' τ k u)) I ?_ ?_ fuel (by rw [fuel_v]; decide)
  · intro f i hi
    show l_X4_weigh_76_3_47 K87 (f + 1) (nI k) (nI i) _ = l_X4_weigh_76_3_47 K87 f (nI k) (nI (i + 1)) _
    rw [u_X4_weigh_76_3_47]
    unfold b_X4_weigh_76_3_47
    have hT' : TX (fil I (78 + k) (fun u => eX (lt' τ k u)) i) 3 τ := hT.rows (fun r _ _ => fil_row (by omega))
    have hz := (ho k hk).1
    rw [if_neg (show ¬ (108 : Int32) ≤ nI i from nI_ge hi (by decide)), ck_t (inb_n (show k < 5 by omega) (by decide)), nI_1, ck_t (inb_n (show k + 1 < 5 by omega) (by decide)), ck_t (inb_n hi (by decide)), s_withOne hW hT' hk hi (fun h => fil_lt (by omega)), bI_some, nI_tn (by omega), nI_tn (by omega), fil_row (show 78 + (k + 1) ≠ 78 + k by omega), hL (k + 1) (Nat.le_refl _) (by omega) i hi, s_cheaper (fun c hc => by have := ls_le ho (show k + 1 ≤ τ 3 by omega) hc; omega) (fun c hc => by
      by_cases h : zt τ k ≤ i
      · rw [if_pos h] at hc
        obtain ⟨c', h1, h2⟩ := Option.map_eq_some_iff.mp hc
        have := ls_le ho (Nat.le_of_lt hk) h1
        have := (ho k hk).2.2
        omega
      · rw [if_neg h] at hc
        cases hc), bI_some, ck_t (inb_n hi (by decide)), nI_1, nI_tn (by omega)]
    have e : omin (lt' τ (k + 1) i) (if zt τ k ≤ i then (lt' τ k (i - zt τ k)).map (fun c => c + pt τ k) else none) = lt' τ k i := (ls_k hk hz i).symm
    rw [e]
  · intro f
    show l_X4_weigh_76_3_47 K87 (f + 1) (nI k) (nI 108) _ = _
    rw [u_X4_weigh_76_3_47]
    unfold b_X4_weigh_76_3_47
    rw [if_pos (by decide)]
theorem s_weigh3 {τ : Td} (hW : WF τ) (K93 : Mem → Option Mem) : ∀ (k : Nat) (I : Mem), k ≤ τ 3 → TX I 3 τ → LX I τ k → ∀ f, k < f → ∃ I', l_X4_weigh_76_3_41 K93 f (nI k + -1) I = K93 I' ∧ LX I' τ 0 ∧ ∀ r, r < 78 ∨ 83 ≤ r → I' r = I r := by
  have hS := hW.2.2.2.1.2
  intro k
  induction k with
  | zero =>
    intro I _ hT hL f hf
    obtain ⟨g, rfl⟩ : ∃ g, f = g + 1 := ⟨f - 1, by omega⟩
    rw [u_X4_weigh_76_3_41]
    unfold b_X4_weigh_76_3_41
    rw [if_pos (by decide)]
    exact ⟨I, rfl, hL, fun _ _ => rfl⟩
  | succ k ih =>
    intro I hk hT hL f hf
    obtain ⟨g, rfl⟩ : ∃ g, f = g + 1 := ⟨f - 1, by omega⟩
    have e : nI (k + 1) + -1 = nI k := by
      rw [← nI_1]
      apply eq_T.mpr
      rw [Int32.add_assoc, show (1 : Int32) + -1 = 0 by decide, Int32.add_zero]
    rw [u_X4_weigh_76_3_41, e]
    unfold b_X4_weigh_76_3_41
    rw [if_neg (nI_pos (by omega)), s_weigh2 _ hW hT (show k < τ 3 by omega) hL]
    obtain ⟨I', a1, a2, a3⟩ := ih (fil I (78 + k) (fun u => eX (lt' τ k u)) 108) (by omega) (hT.rows (fun r _ _ => fil_row (by omega))) (fun j h1 h2 u hu => by
      by_cases hj : j = k
      · rw [hj, fil_lt hu]
      · rw [fil_row (by omega)]
        exact hL j (by omega) h2 u hu) g (by omega)
    exact ⟨I', a1, a2, fun r hr => by rw [a3 r hr, fil_row (by omega)]⟩
theorem s_weigh {I : Mem} {τ : Td} (hW : WF τ) (hT : TX I 3 τ) : ∃ I', f_X4_weigh_76_3 I = some I' ∧ LX I' τ 0 ∧ ∀ r, r < 78 ∨ 83 ≤ r → I' r = I r := by
  have hS := hW.2.2.2.1.2
  unfold f_X4_weigh_76_3
  rw [s_weigh1 _ hW hT]
  generalize hM : fil I (78 + τ 3) (fun u => eX (lt' τ (τ 3) u)) 108 = M
  have hr : ∀ r, r < 78 ∨ 83 ≤ r → M r = I r := fun r h => by rw [← hM, fil_row (by omega)]
  have hT' : TX M 3 τ := hT.rows (fun r _ _ => hr r (by omega))
  have e : M 3 0 - 1 = nI (τ 3) + -1 := by
    rw [hT'.1, Int32.sub_eq_add_neg]
  obtain ⟨I', a1, a2, a3⟩ := s_weigh3 hW (fun I15 => some I15) (τ 3) M (Nat.le_refl _) hT' (fun j h1 h2 u hu => by rw [show j = τ 3 by omega, ← hM, fil_lt hu]) fuel (by rw [fuel_v]; omega)
  refine ⟨I', ?_, a2, fun r h => by rw [a3 r h, hr r h]⟩
  rw [← e] at a1
  exact a1
/-- the units of the plan for n pages -/
def un (τ : Td) (n : Nat) : Nat := unF (fun u => (lt' τ 0 u).isSome) (107 - (n + 3) / 4) ((n + 3) / 4)
theorem un_spec {τ : Td} (hW : WF τ) {n : Nat} (hn : n ≤ 400) : (n + 3) / 4 ≤ un τ n ∧ un τ n ≤ 107 ∧ (∃ c, lt' τ 0 (un τ n) = some c) ∧ ∀ v, (n + 3) / 4 ≤ v → v < un τ n → lt' τ 0 v = none := by
  have ho := okz_of hW
  have hS := hW.2.2.2.1.1
  obtain ⟨hz, hz8, -⟩ := ho 0 (by omega)
  generalize hu0 : (n + 3) / 4 = u0
  have hu1 : u0 ≤ 100 := by omega
  have hex : ∃ j, j ≤ 107 - u0 ∧ (lt' τ 0 (u0 + j)).isSome = true := by
    obtain ⟨m, hm1, hm2⟩ : ∃ m, u0 ≤ m * zt τ 0 ∧ m * zt τ 0 ≤ u0 + zt τ 0 - 1 := by
      refine ⟨(u0 + zt τ 0 - 1) / zt τ 0, ?_, Nat.div_mul_le_self _ _⟩
      have h1 := Nat.div_add_mod (u0 + zt τ 0 - 1) (zt τ 0)
      have h2 := Nat.mod_lt (u0 + zt τ 0 - 1) hz
      rw [Nat.mul_comm] at h1
      omega
    refine ⟨m * zt τ 0 - u0, by omega, ?_⟩
    rw [show u0 + (m * zt τ 0 - u0) = m * zt τ 0 by omega]
    have := ls_mul ho (show 0 < τ 3 by omega) m
    unfold lt'
    cases h : ls (zt τ) (pt τ) (τ 3) 0 (m * zt τ 0) with
    | none => exact absurd h this
    | some c => rfl
  obtain ⟨a1, a2, a3, a4⟩ := unF_spec (fun u => (lt' τ 0 u).isSome) (107 - u0) u0 hex
  unfold un
  rw [hu0]
  refine ⟨a1, by omega, Option.isSome_iff_exists.mp a3, fun v b1 b2 => ?_⟩
  have := a4 v b1 b2
  cases h : lt' τ 0 v with
  | none => rfl
  | some c => rw [h] at this; cases this
theorem s_unitsFor {I : Mem} {τ : Td} {n : Nat} (hn : n ≤ 400) (h78 : ∀ u, u < 108 → I 78 u = eX (lt' τ 0 u)) (hb : ∀ u c, u < 108 → lt' τ 0 u = some c → c < 2 ^ 30) : f_X4_unitsFor (nI n) I = some (nI (un τ n), I) := by
  unfold f_X4_unitsFor un
  have e0 : (nI n + 4 - 1) / 4 = nI ((n + 3) / 4) := by
    rw [show nI n + 4 = nI (n + 4) from nI_add n 4, show nI (n + 4) - 1 = nI (n + 3) from nI_sub (a := n + 4) (b := 1) (by omega) (by omega)]
    exact nI_div (a := n + 3) (b := 4) (by omega) (by decide)
  rw [e0]
  generalize hu0 : (n + 3) / 4 = u0
  have hu1 : u0 ≤ 107 := by omega
  have key : ∀ (d u f : Nat), u + d = 107 → d < f → l_X4_unitsFor_8 (fun (z2 : Int32) I3 => some (z2, I3)) f (nI u) I = some (nI (unF (fun u => (lt' τ 0 u).isSome) d u), I) := by
    intro d
    induction d with
    | zero =>
      intro u f hu hf
      obtain ⟨g, rfl⟩ : ∃ g, f = g + 1 := ⟨f - 1, by omega⟩
      rw [u_X4_unitsFor_8]
      unfold b_X4_unitsFor_8
      rw [if_pos (show (107 : Int32) ≤ nI u from nI_le (a := 107) (by omega) (by omega))]
      rfl
    | succ d ih =>
      intro u f hu hf
      obtain ⟨g, rfl⟩ : ∃ g, f = g + 1 := ⟨f - 1, by omega⟩
      rw [u_X4_unitsFor_8]
      unfold b_X4_unitsFor_8
      rw [if_neg (show ¬ (107 : Int32) ≤ nI u from nI_ge (b := 107) (by omega) (by decide)), ck_t (inb_n (show u < 108 by omega) (by decide)), nI_tn (by omega), h78 u (by omega)]
      unfold unF
      cases hc : lt' τ 0 u with
      | none =>
        show (if (-1 : Int32) = -1 then _ else _) = _
        rw [if_pos rfl, nI_1, ih (u + 1) g (by omega) (by omega)]
        rfl
      | some c =>
        show (if nI c = -1 then _ else _) = _
        have := hb u c (by omega) hc
        rw [if_neg (nI_m1 (by omega))]
        rfl
  exact key (107 - u0) u0 fuel (by omega) (by rw [fuel_v]; omega)
/-- the last of the numbers below m where P holds, else 0 -/
def accF (P : Nat → Bool) : Nat → Nat
  | 0 => 0
  | m + 1 => if P m = true then m else accF P m
theorem accF_mo (P : Nat → Bool) : ∀ m, accF P (m + 1) = moF P m
  | 0 => by
    show (if P 0 = true then 0 else 0) = 0
    by_cases h : P 0 = true <;> simp [h]
  | m + 1 => by
    show (if P (m + 1) = true then m + 1 else accF P (m + 1)) = (if P (m + 1) = true then m + 1 else moF P m)
    rw [accF_mo P m]
theorem accF_le (P : Nat → Bool) : ∀ m, accF P m ≤ m
  | 0 => Nat.le_refl _
  | m + 1 => by
    unfold accF
    by_cases h : P m = true
    · rw [if_pos h]; omega
    · rw [if_neg h]; have := accF_le P m; omega
theorem s_mostOf {I : Mem} {τ : Td} {k u : Nat} (hW : WF τ) (hT : TX I 3 τ) (hL : LX I τ 0) (hk : k < τ 3) (hu : u < 108) : f_X4_mostOf_76_3 (nI k) (nI u) I = some (nI (mo (zt τ) (pt τ) (τ 3) k u), I) := by
  have hS := hW.2.2.2.1.2
  have ho := okz_of hW
  obtain ⟨hz, hz8, hp⟩ := ho k hk
  obtain ⟨t1, t2, t3⟩ := hT.2.2.1 k hk
  have hdm := Nat.div_mul_le_self u (zt τ k)
  have hdl : u / zt τ k ≤ u := Nat.div_le_self _ _
  have hdu : u < (u / zt τ k + 1) * zt τ k := by rw [Nat.mul_comm]; exact Nat.lt_mul_div_succ u hz
  unfold f_X4_mostOf_76_3 mo
  rw [s_unitsOf hW hT hk, bI_some, ← accF_mo]
  generalize hP : Pm (zt τ) (pt τ) (τ 3) k u = P
  have key := iter_loop (fun f x (t : Int32) => l_X4_mostOf_76_3_13 (fun (z8 : Int32) I9 => some (z8, I9)) f (nI k) (nI u) (nI (zt τ k)) t x I) (some (nI (accF P (u / zt τ k + 1)), I)) 0 (u / zt τ k + 1) (fun m => nI (accF P m)) (Nat.zero_le _) ?_ ?_ fuel (by rw [fuel_v]; omega)
  · exact key
  · intro f m _ hm
    have hmz : m * zt τ k ≤ u := Nat.le_trans (Nat.mul_le_mul_right _ (show m ≤ u / zt τ k by omega)) hdm
    have hmp : m * pt τ k ≤ 108 * 99 := Nat.mul_le_mul (by omega) hp
    show l_X4_mostOf_76_3_13 _ (f + 1) (nI k) (nI u) (nI (zt τ k)) (nI (accF P m)) (nI m) I = l_X4_mostOf_76_3_13 _ f (nI k) (nI u) (nI (zt τ k)) (nI (accF P (m + 1))) (nI (m + 1)) I
    rw [u_X4_mostOf_76_3_13]
    unfold b_X4_mostOf_76_3_13
    rw [if_neg (nI_nlt (show m ≤ u by omega) (by omega)), nI_mul, if_neg (nI_nlt hmz (by omega)), nI_1, ck_t (inb_n (show k + 1 < 5 by omega) (by decide)), nI_sub hmz (by omega), ck_t (inb_n (show u - m * zt τ k < 108 by omega) (by decide)), nI_tn (by omega), nI_tn (by omega), hL (k + 1) (by omega) (by omega) _ (by omega), nI_1]
    have hPm : P m = Pm (zt τ) (pt τ) (τ 3) k u m := by rw [hP]
    have hacc : accF P (m + 1) = if P m = true then m else accF P m := rfl
    unfold Pm at hPm
    unfold lt'
    cases h1 : ls (zt τ) (pt τ) (τ 3) (k + 1) (u - m * zt τ k) with
    | none =>
      rw [h1] at hPm
      show (if (-1 : Int32) = -1 then _ else _) = _
      rw [if_pos rfl, hacc, hPm]
      rfl
    | some c' =>
      have hb' := ls_le ho (show k + 1 ≤ τ 3 by omega) h1
      show (if nI c' = -1 then _ else _) = _
      rw [if_neg (nI_m1 (by omega)), ck_t (inb_n (show k < 4 by omega) (by decide)), ck_t (inb_n (show k < 5 by omega) (by decide)), ck_t (inb_n hu (by decide)), nI_tn (by omega), nI_tn (by omega), t3, hL k (by omega) (by omega) u hu]
      show (if nI c' + nI m * nI (pt τ k) = _ then _ else _) = _
      rw [nI_mul, nI_add]
      rw [h1] at hPm
      unfold lt'
      cases h2 : ls (zt τ) (pt τ) (τ 3) k u with
      | none =>
        rw [h2] at hPm
        show (if nI (c' + m * pt τ k) = -1 then _ else _) = _
        rw [if_neg (nI_m1 (by omega)), hacc, hPm]
        rfl
      | some c =>
        have hb2 := ls_le ho (show k ≤ τ 3 by omega) h2
        rw [h2] at hPm
        show (if nI (c' + m * pt τ k) = nI c then _ else _) = _
        by_cases he : c' + m * pt τ k = c
        · rw [if_pos (by rw [he]), hacc, hPm]
          show _ = l_X4_mostOf_76_3_13 _ f (nI k) (nI u) (nI (zt τ k)) (nI (if decide (c' + m * pt τ k = c) = true then m else accF P m)) (nI (m + 1)) I
          rw [if_pos (decide_eq_true he)]
        · rw [if_neg (fun q => he ((nI_eq (by omega) (by omega)).mp q)), hacc, hPm]
          show _ = l_X4_mostOf_76_3_13 _ f (nI k) (nI u) (nI (zt τ k)) (nI (if decide (c' + m * pt τ k = c) = true then m else accF P m)) (nI (m + 1)) I
          rw [if_neg (fun q => he (of_decide_eq_true q))]
  · intro f
    show l_X4_mostOf_76_3_13 _ (f + 1) (nI k) (nI u) (nI (zt τ k)) (nI (accF P (u / zt τ k + 1))) (nI (u / zt τ k + 1)) I = _
    rw [u_X4_mostOf_76_3_13]
    unfold b_X4_mostOf_76_3_13
    by_cases h : nI u < nI (u / zt τ k + 1)
    · rw [if_pos h]
    · rw [if_neg h, nI_mul, if_pos (nI_lt hdu (by
        have : (u / zt τ k + 1) * zt τ k ≤ 109 * 8 := Nat.mul_le_mul (by omega) hz8
        omega))]
