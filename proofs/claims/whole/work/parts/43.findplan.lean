/-! THE PLAN: the reference -/
/-- k places of row a, from place o on, are v -/
def fio (I : Mem) (a o : Nat) (v : Nat → Int32) (k : Nat) : Mem := upR I a (fun j => if o ≤ j ∧ j < o + k then v (j - o) else I a j)
theorem fio_0 (I : Mem) (a o : Nat) (v : Nat → Int32) : fio I a o v 0 = I := by
  funext i
  unfold fio upR
  by_cases h : i = a
  · rw [if_pos h, h]
    funext j
    exact if_neg (by omega)
  · rw [if_neg h]
theorem fio_row {I : Mem} {a o : Nat} {v : Nat → Int32} {k i : Nat} (h : i ≠ a) : fio I a o v k i = I i := upR_ne h
theorem fio_in {I : Mem} {a o : Nat} {v : Nat → Int32} {k j : Nat} (h : j < k) : fio I a o v k a (o + j) = v j := by
  unfold fio
  rw [upR_at, if_pos (by omega), Nat.add_sub_cancel_left]
theorem fio_out {I : Mem} {a o : Nat} {v : Nat → Int32} {k j : Nat} (h : j < o ∨ o + k ≤ j) : fio I a o v k a j = I a j := by
  unfold fio
  rw [upR_at, if_neg (by omega)]
theorem fio_s {I : Mem} {a o : Nat} {v : Nat → Int32} {k : Nat} : stm (fio I a o v k) a (o + k) (v k) = fio I a o v (k + 1) := by
  unfold fio
  rw [stm_upR]
  congr 1
  funext j
  unfold upd
  by_cases h : j = o + k
  · rw [if_pos h, h, if_pos (by omega), Nat.add_sub_cancel_left]
  · rw [if_neg h]
    show (if o ≤ j ∧ j < o + k then v (j - o) else I a j) = _
    by_cases h2 : o ≤ j ∧ j < o + k
    · rw [if_pos h2, if_pos (by omega)]
    · rw [if_neg h2, if_neg (by omega)]
theorem stm_stm (I : Mem) (a k : Nat) (x y : Int32) : stm (stm I a k x) a k y = stm I a k y := by
  funext i j
  rw [stm_get, stm_get, stm_get]
  by_cases h : i = a ∧ j = k
  · rw [if_pos h, if_pos h]
  · rw [if_neg h, if_neg h, if_neg h]
theorem fio_loop {β : Type} (L : Nat → Int32 → Mem → Option β) (K : Mem → Option β) (a o n : Nat) (v : Nat → Int32) (I0 : Mem)
    (hs : ∀ f i, i < n → L (f + 1) (nI i) (fio I0 a o v i) = L f (nI (i + 1)) (stm (fio I0 a o v i) a (o + i) (v i)))
    (he : ∀ f, L (f + 1) (nI n) (fio I0 a o v n) = K (fio I0 a o v n)) : ∀ f, n < f → L f (nI 0) I0 = K (fio I0 a o v n) := by
  intro f hf
  have := iter_loop L (K (fio I0 a o v n)) 0 n (fun i => fio I0 a o v i) (Nat.zero_le _) (fun f i _ hi => by
    rw [hs f i hi, fio_s]) he f (by omega)
  rwa [fio_0] at this
/-- the least price of just t pages -/
def tc (τ : Td) (k t : Nat) : Option Nat := if t % 4 = 0 then lt' τ k (t / 4) else none
def eM (o : Option Nat) : Int32 := match o with
  | none => 1000000
  | some c => nI c
theorem pg_4 {τ : Td} (hW : WF τ) {k : Nat} (hk : k < τ 3) : 2 * 2 ^ τ (8 + k) = 4 * zt τ k := by
  have h1 := (hW.2.2.2.2.1 k hk).2.1
  show 2 * 2 ^ τ (8 + k) = 4 * 2 ^ (τ (8 + k) - 1)
  obtain ⟨m, hm⟩ : ∃ m, τ (8 + k) = m + 1 := ⟨τ (8 + k) - 1, by omega⟩
  rw [hm, Nat.add_sub_cancel, Nat.pow_succ]
  omega
theorem tc_S (τ : Td) (t : Nat) : tc τ (τ 3) t = if t = 0 then some 0 else none := by
  unfold tc lt'
  rw [ls_S]
  by_cases h : t = 0
  · rw [h]; rfl
  · rw [if_neg h]
    by_cases h4 : t % 4 = 0
    · rw [if_pos h4, if_neg (by omega)]
    · rw [if_neg h4]
theorem tc_k {τ : Td} (hW : WF τ) {k : Nat} (hk : k < τ 3) (t : Nat) : tc τ k t = omin (tc τ (k + 1) t) (if 4 * zt τ k ≤ t then (tc τ k (t - 4 * zt τ k)).map (fun c => c + pt τ k) else none) := by
  have hz := (okz_of hW k hk).1
  unfold tc
  by_cases h4 : t % 4 = 0
  · rw [if_pos h4, if_pos h4]
    unfold lt'
    rw [ls_k hk hz]
    by_cases h : zt τ k ≤ t / 4
    · rw [if_pos h, if_pos (by omega), if_pos (by omega), show (t - 4 * zt τ k) / 4 = t / 4 - zt τ k by omega]
    · rw [if_neg h, if_neg (by omega)]
  · rw [if_neg h4, if_neg h4]
    by_cases h : 4 * zt τ k ≤ t
    · rw [if_pos h, if_neg (by omega)]
      rfl
    · rw [if_neg h]
      rfl
theorem tc_le {τ : Td} (hW : WF τ) {k t c : Nat} (hk : k ≤ τ 3) (ht : t < 440) (h : tc τ k t = some c) : c ≤ 11000 := by
  unfold tc at h
  by_cases h4 : t % 4 = 0
  · rw [if_pos h4] at h
    have := ls_le (okz_of hW) hk h
    omega
  · rw [if_neg h4] at h
    cases h
theorem eM_min {a b : Option Nat} {p : Nat} (ha : ∀ c, a = some c → c ≤ 11000) (hb : ∀ c, b = some c → c ≤ 11000) (hp : p ≤ 99) : (if eM a ≤ eM b + nI p then eM a else eM b + nI p) = eM (omin a (b.map (fun c => c + p))) := by
  cases b with
  | none =>
    have e : eM none + nI p = nI (1000000 + p) := nI_add 1000000 p
    rw [e]
    cases a with
    | none => exact if_pos (nI_le (a := 1000000) (by omega) (by omega))
    | some x =>
      have := ha x rfl
      exact if_pos (nI_le (by omega) (by omega))
  | some y =>
    have hy := hb y rfl
    have e : eM (some y) + nI p = nI (y + p) := nI_add y p
    rw [e]
    cases a with
    | none => exact if_neg (nI_ge (b := 1000000) (by omega) (by decide))
    | some x =>
      have := ha x rfl
      show (if nI x ≤ nI (y + p) then nI x else nI (y + p)) = nI (min x (y + p))
      by_cases h : x ≤ y + p
      · rw [if_pos (nI_le h (by omega)), Nat.min_eq_left h]
      · rw [if_neg (nI_ge (by omega) (by omega)), Nat.min_eq_right (by omega)]
theorem s_at (k t : Nat) (I : Mem) : f_X9_at (nI k) (nI t) I = some (nI (440 * k + t), I) := by
  unfold f_X9_at
  rw [show (440 : Int32) * nI k = nI (440 * k) from nI_mul 440 k, nI_add]
/-- rows from k on of the reference's table -/
def LM (I : Mem) (τ : Td) (k : Nat) : Prop := ∀ j, k ≤ j → j ≤ τ 3 → ∀ t, t < 440 → I 101 (440 * j + t) = eM (tc τ j t)
theorem s_fp9 (K42 : Int32 → Int32 → Mem → Option Mem) {I : Mem} {τ : Td} (hS : τ 3 ≤ 4) (x1 : Int32) : l_X9_findPlan_9 K42 fuel x1 (nI (τ 3)) 0 I = K42 x1 (nI (τ 3)) (fio I 101 (440 * τ 3) (fun t => eM (tc τ (τ 3) t)) 440) := by
  refine fio_loop (fun f x M => l_X9_findPlan_9 K42 f x1 (nI (τ 3)) x M) (fun M => K42 x1 (nI (τ 3)) M) 101 (440 * τ 3) 440 (fun t => eM (tc τ (τ 3) t)) I ?_ ?_ fuel (by rw [fuel_v]; decide)
  · intro f i hi
    show l_X9_findPlan_9 K42 (f + 1) x1 (nI (τ 3)) (nI i) _ = l_X9_findPlan_9 K42 f x1 (nI (τ 3)) (nI (i + 1)) _
    rw [u_X9_findPlan_9]
    unfold b_X9_findPlan_9
    rw [if_neg (show ¬ (440 : Int32) ≤ nI i from nI_ge hi (by decide)), s_at, bI_some, ck_t (inb_n (show 440 * τ 3 + i < 2200 by omega) (by decide)), ck_t (inb_n (show 440 * τ 3 + i < 2200 by omega) (by decide)), nI_tn (by omega), nI_1, tc_S]
    by_cases h0 : i = 0
    · rw [if_pos (show nI i = 0 by rw [h0]; rfl), if_pos h0]
      rfl
    · rw [if_neg (show ¬ nI i = 0 from nI_ne0 (by omega) (by omega)), if_neg h0]
      rfl
  · intro f
    show l_X9_findPlan_9 K42 (f + 1) x1 (nI (τ 3)) (nI 440) _ = _
    rw [u_X9_findPlan_9]
    unfold b_X9_findPlan_9
    rw [if_pos (by decide)]
theorem s_fp53 (K150 : Int32 → Int32 → Int32 → Mem → Option Mem) {I : Mem} {τ : Td} {k : Nat} (hW : WF τ) (hT : TM (I 91) τ) (hk : k < τ 3) (hL : LM I τ (k + 1)) (x1 x2 : Int32) : l_X9_findPlan_53 K150 fuel x1 x2 (nI k) 0 I = K150 x1 x2 (nI k) (fio I 101 (440 * k) (fun t => eM (tc τ k t)) 440) := by
  have hS := hW.2.2.2.1.2
  refine fio_loop (fun f x M => l_X9_findPlan_53 K150 f x1 x2 (nI k) x M) (fun M => K150 x1 x2 (nI k) M) 101 (440 * k) 440 (fun t => eM (tc τ k t)) I ?_ ?_ fuel (by rw [fuel_v]; decide)
  · intro f i hi
    show l_X9_findPlan_53 K150 (f + 1) x1 x2 (nI k) (nI i) _ = l_X9_findPlan_53 K150 f x1 x2 (nI k) (nI (i + 1)) _
    rw [u_X9_findPlan_53]
    unfold b_X9_findPlan_53
    generalize hM : fio I 101 (440 * k) (fun t => eM (tc τ k t)) i = M
    have hT' : TM (M 91) τ := by rw [← hM, fio_row (by decide)]; exact hT
    obtain ⟨hz, hz8, hp⟩ := okz_of hW k hk
    have hlow : M 101 (440 * (k + 1) + i) = eM (tc τ (k + 1) i) := by
      rw [← hM, fio_out (by omega)]
      exact hL (k + 1) (Nat.le_refl _) (by omega) i hi
    have hj : ∀ y0 : Int32, (if eM (tc τ (k + 1) i) ≤ y0 then eM (tc τ (k + 1) i) else y0) = eM (tc τ k i) → j_X9_findPlan_102 (l_X9_findPlan_53 K150 f) x1 x2 (nI k) (nI i) y0 M = l_X9_findPlan_53 K150 f x1 x2 (nI k) (nI (i + 1)) (stm M 101 (440 * k + i) (eM (tc τ k i))) := by
      intro y0 hy
      unfold j_X9_findPlan_102
      rw [nI_1, s_at, bI_some, ck_t (inb_n (show 440 * (k + 1) + i < 2200 by omega) (by decide)), s_at, bI_some, ck_t (inb_n (show 440 * k + i < 2200 by omega) (by decide)), ck_t (inb_n (show 440 * k + i < 2200 by omega) (by decide)), nI_tn (by omega), nI_tn (by omega), hlow, nI_1]
      by_cases hc : eM (tc τ (k + 1) i) ≤ y0
      · rw [if_pos hc] at hy
        rw [if_pos hc, hy]
      · rw [if_neg hc] at hy
        rw [if_neg hc, hy]
    rw [if_neg (show ¬ (440 : Int32) ≤ nI i from nI_ge hi (by decide)), s_pagesOf9 hW hT' hk, bI_some, pg_4 hW hk]
    have hk1 := tc_k hW hk i
    by_cases h : i < 4 * zt τ k
    · rw [if_pos (nI_lt h (by omega))]
      refine hj _ ?_
      rw [if_neg (by omega)] at hk1
      rw [hk1]
      cases ha : tc τ (k + 1) i with
      | none => exact if_pos (by decide)
      | some c =>
        have := tc_le hW (by omega) hi ha
        exact if_pos (nI_le (b := 1000000) (by omega) (by decide))
    · rw [if_neg (nI_nlt (by omega) (by omega)), s_pagesOf9 hW hT' hk, bI_some, pg_4 hW hk, nI_sub (by omega) (by omega), s_at, bI_some, ck_t (inb_n (show 440 * k + (i - 4 * zt τ k) < 2200 by omega) (by decide)), show (4 : Int32) + nI k = nI (4 + k) from nI_add 4 k, ck_t (inb_n (show 4 + k < 132 by omega) (by decide)), nI_tn (by omega), nI_tn (by omega)]
      refine hj _ ?_
      have e1 : M 101 (440 * k + (i - 4 * zt τ k)) = eM (tc τ k (i - 4 * zt τ k)) := by
        rw [← hM, fio_in (by omega)]
      rw [if_pos (show 4 * zt τ k ≤ i by omega)] at hk1
      rw [e1, (hT'.2.1 k hk).1, hk1]
      exact eM_min (fun c hc => tc_le hW (show k + 1 ≤ τ 3 by omega) hi hc) (fun c hc => tc_le hW (Nat.le_of_lt hk) (show i - 4 * zt τ k < 440 by omega) hc) hp
  · intro f
    show l_X9_findPlan_53 K150 (f + 1) x1 x2 (nI k) (nI 440) _ = _
    rw [u_X9_findPlan_53]
    unfold b_X9_findPlan_53
    rw [if_pos (by decide)]
theorem s_fp46 {τ : Td} (hW : WF τ) (K156 : Int32 → Int32 → Mem → Option Mem) (x1 x2 : Int32) : ∀ (k : Nat) (I : Mem), k ≤ τ 3 → TM (I 91) τ → LM I τ k → ∀ f, k < f → ∃ I', l_X9_findPlan_46 K156 f x1 x2 (nI k + -1) I = K156 x1 x2 I' ∧ LM I' τ 0 ∧ ∀ r, r ≠ 101 → I' r = I r := by
  have hS := hW.2.2.2.1.2
  intro k
  induction k with
  | zero =>
    intro I _ hT hL f hf
    obtain ⟨g, rfl⟩ : ∃ g, f = g + 1 := ⟨f - 1, by omega⟩
    rw [u_X9_findPlan_46]
    unfold b_X9_findPlan_46
    rw [if_pos (by decide)]
    exact ⟨I, rfl, hL, fun _ _ => rfl⟩
  | succ k ih =>
    intro I hk hT hL f hf
    obtain ⟨g, rfl⟩ : ∃ g, f = g + 1 := ⟨f - 1, by omega⟩
    have e : nI (k + 1) + -1 = nI k := by
      rw [← nI_1]
      apply eq_T.mpr
      rw [Int32.add_assoc, show (1 : Int32) + -1 = 0 by decide, Int32.add_zero]
    rw [u_X9_findPlan_46, e]
    unfold b_X9_findPlan_46
    rw [if_neg (nI_pos (by omega)), s_fp53 _ hW hT (show k < τ 3 by omega) hL]
    obtain ⟨I', a1, a2, a3⟩ := ih (fio I 101 (440 * k) (fun t => eM (tc τ k t)) 440) (by omega) (by rw [fio_row (by decide)]; exact hT) (fun j h1 h2 t ht => by
      by_cases hj : j = k
      · rw [hj, fio_in ht]
      · rw [fio_out (by omega)]
        exact hL j (by omega) h2 t ht) g (by omega)
    exact ⟨I', a1, a2, fun r hr => by rw [a3 r hr, fio_row hr]⟩
theorem s_fp161 {τ : Td} (hW : WF τ) {n : Nat} (hn : n ≤ 400) (K192 : Int32 → Mem → Option Mem) (x2 : Int32) {I : Mem} (hL : LM I τ 0) : l_X9_findPlan_161 K192 fuel x2 (stm I 89 20 (nI n)) = K192 x2 (stm I 89 20 (nI (4 * un τ n))) := by
  obtain ⟨u1, u2, ⟨c, hc⟩, u4⟩ := un_spec hW hn
  have htc : tc τ 0 (4 * un τ n) = some c := by
    unfold tc
    rw [if_pos (by omega), show 4 * un τ n / 4 = un τ n by omega]
    exact hc
  refine iter_loop (fun f (_ : Int32) M => l_X9_findPlan_161 K192 f x2 M) (K192 x2 (stm I 89 20 (nI (4 * un τ n)))) n (4 * un τ n) (fun t => stm I 89 20 (nI t)) (by omega) ?_ ?_ fuel (by rw [fuel_v]; omega)
  · intro f t h1 h2
    show l_X9_findPlan_161 K192 (f + 1) x2 (stm I 89 20 (nI t)) = l_X9_findPlan_161 K192 f x2 (stm I 89 20 (nI (t + 1)))
    rw [u_X9_findPlan_161]
    unfold b_X9_findPlan_161
    have e : tc τ 0 t = none := by
      unfold tc
      by_cases h4 : t % 4 = 0
      · rw [if_pos h4]
        exact u4 _ (by omega) (by omega)
      · rw [if_neg h4]
    rw [stm_at, show (0 : Int32) = nI 0 from rfl, s_at, bI_some, ck_t (inb_n (show 440 * 0 + t < 2200 by omega) (by decide)), nI_tn (by omega), stm_row (by decide), hL 0 (by omega) (by omega) t (by omega), e, if_neg (by decide), stm_at, stm_stm, nI_1]
  · intro f
    show l_X9_findPlan_161 K192 (f + 1) x2 (stm I 89 20 (nI (4 * un τ n))) = _
    rw [u_X9_findPlan_161]
    unfold b_X9_findPlan_161
    have := tc_le hW (Nat.zero_le _) (show 4 * un τ n < 440 by omega) htc
    rw [stm_at, show (0 : Int32) = nI 0 from rfl, s_at, bI_some, ck_t (inb_n (show 440 * 0 + 4 * un τ n < 2200 by omega) (by decide)), nI_tn (by omega), stm_row (by decide), hL 0 (by omega) (by omega) _ (by omega), htc, if_pos (show eM (some c) < 1000000 from nI_lt (b := 1000000) (by omega) (by decide))]
theorem s_fp200 (K220 : Int32 → Int32 → Mem → Option Mem) (x2 x3 : Int32) (I : Mem) : l_X9_findPlan_200 K220 fuel x2 x3 0 I = K220 x2 x3 (fil I 102 (fun _ => 0) 4) := by
  refine fill_loop (fun f x M => l_X9_findPlan_200 K220 f x2 x3 x M) (fun M => K220 x2 x3 M) 102 4 (fun _ => 0) I ?_ ?_ fuel (by rw [fuel_v]; decide)
  · intro f i hi
    show l_X9_findPlan_200 K220 (f + 1) x2 x3 (nI i) _ = l_X9_findPlan_200 K220 f x2 x3 (nI (i + 1)) _
    rw [u_X9_findPlan_200]
    unfold b_X9_findPlan_200
    rw [if_neg (show ¬ (4 : Int32) ≤ nI i from nI_ge hi (by decide)), ck_t (inb_n hi (by decide)), nI_tn (by omega), nI_1]
  · intro f
    show l_X9_findPlan_200 K220 (f + 1) x2 x3 (nI 4) _ = _
    rw [u_X9_findPlan_200]
    unfold b_X9_findPlan_200
    rw [if_pos (by decide)]
theorem nI_dec (m : Nat) : nI (m + 1) + -1 = nI m := by
  rw [← nI_1]
  apply eq_T.mpr
  rw [Int32.add_assoc, show (1 : Int32) + -1 = 0 by decide, Int32.add_zero]
theorem s_fp239 {τ : Td} (hW : WF τ) (K295 : Int32 → Int32 → Int32 → Int32 → Mem → Option Mem) (x2 : Int32) {I : Mem} (hT : TM (I 91) τ) (hL : LM I τ 0) {k r c : Nat} (hk : k < τ 3) (hr : r ≤ 107) (hc : lt' τ k r = some c) : l_X9_findPlan_239 K295 fuel x2 (nI (4 * r)) (nI k) (nI (r / zt τ k)) I = K295 x2 (nI (4 * r)) (nI k) (nI (mo (zt τ) (pt τ) (τ 3) k r)) I := by
  have hS := hW.2.2.2.1.2
  have ho := okz_of hW
  obtain ⟨hz, hz8, hp⟩ := ho k hk
  have hdl : r / zt τ k ≤ r := Nat.div_le_self _ _
  have hdm := Nat.div_mul_le_self r (zt τ k)
  have hcb := ls_le ho (Nat.le_of_lt hk) hc
  obtain ⟨m0, c0, b1, b2, b3⟩ := ls_exists ho hk r c hc
  have hPm0 : ∃ j, j ≤ r / zt τ k ∧ Pm (zt τ) (pt τ) (τ 3) k r j = true := by
    refine ⟨m0, (Nat.le_div_iff_mul_le hz).mpr b1, ?_⟩
    unfold Pm
    rw [b2, show ls (zt τ) (pt τ) (τ 3) k r = some c from hc]
    exact decide_eq_true b3
  have key : ∀ (m f : Nat), m ≤ r / zt τ k → m < f → (∃ j, j ≤ m ∧ Pm (zt τ) (pt τ) (τ 3) k r j = true) → l_X9_findPlan_239 K295 f x2 (nI (4 * r)) (nI k) (nI m) I = K295 x2 (nI (4 * r)) (nI k) (nI (moF (Pm (zt τ) (pt τ) (τ 3) k r) m)) I := by
    intro m
    induction m with
    | zero =>
      intro f hm hf ⟨j, hj, hP⟩
      rw [show j = 0 by omega] at hP
      obtain ⟨g, rfl⟩ : ∃ g, f = g + 1 := ⟨f - 1, by omega⟩
      rw [u_X9_findPlan_239]
      unfold b_X9_findPlan_239
      unfold Pm at hP
      rw [show ls (zt τ) (pt τ) (τ 3) k r = some c from hc, Nat.zero_mul, Nat.sub_zero] at hP
      have hw : ∀ w, tc τ w (4 * r) = lt' τ w r := fun w => by unfold tc; rw [if_pos (by omega), show 4 * r / 4 = r by omega]
      rw [s_pagesOf9 hW hT hk, bI_some, nI_1, nI_mul, Nat.zero_mul, nI_sub (Nat.zero_le _) (by omega), Nat.sub_zero, s_at, bI_some, ck_t (inb_n (show 440 * (k + 1) + 4 * r < 2200 by omega) (by decide)), show (4 : Int32) + nI k = nI (4 + k) from nI_add 4 k, ck_t (inb_n (show 4 + k < 132 by omega) (by decide)), s_at, bI_some, ck_t (inb_n (show 440 * k + 4 * r < 2200 by omega) (by decide)), nI_tn (by omega), nI_tn (by omega), nI_tn (by omega), hL (k + 1) (by omega) (by omega) _ (by omega), hL k (by omega) (by omega) _ (by omega), hw, hw, hc]
      cases h1 : ls (zt τ) (pt τ) (τ 3) (k + 1) r with
      | none => rw [h1] at hP; cases hP
      | some c' =>
        rw [h1] at hP
        have h2 : c' + 0 * pt τ k = c := of_decide_eq_true hP
        rw [(hT.2.1 k hk).1, nI_mul, show lt' τ (k + 1) r = some c' from h1]
        rw [if_pos (show eM (some c') + nI (0 * τ (4 + k)) = eM (some c) by
          show nI c' + nI (0 * τ (4 + k)) = nI c
          rw [nI_add]
          exact congrArg nI h2)]
        rfl
    | succ m ih =>
      intro f hm hf hex
      obtain ⟨g, rfl⟩ : ∃ g, f = g + 1 := ⟨f - 1, by omega⟩
      rw [u_X9_findPlan_239]
      unfold b_X9_findPlan_239
      have hmz : (m + 1) * zt τ k ≤ r := Nat.le_trans (Nat.mul_le_mul_right _ hm) hdm
      have hmp : (m + 1) * τ (4 + k) ≤ 107 * 99 := Nat.mul_le_mul (by omega) hp
      have e4 : (m + 1) * (4 * zt τ k) = 4 * ((m + 1) * zt τ k) := by rw [Nat.mul_left_comm]
      have hw : tc τ k (4 * r) = lt' τ k r := by unfold tc; rw [if_pos (by omega), show 4 * r / 4 = r by omega]
      have hw2 : tc τ (k + 1) (4 * r - 4 * ((m + 1) * zt τ k)) = lt' τ (k + 1) (r - (m + 1) * zt τ k) := by unfold tc; rw [if_pos (by omega), show (4 * r - 4 * ((m + 1) * zt τ k)) / 4 = r - (m + 1) * zt τ k by omega]
      rw [s_pagesOf9 hW hT hk, bI_some, pg_4 hW hk, nI_1, nI_mul, e4, nI_sub (by omega) (by omega), s_at, bI_some, ck_t (inb_n (show 440 * (k + 1) + (4 * r - 4 * ((m + 1) * zt τ k)) < 2200 by omega) (by decide)), show (4 : Int32) + nI k = nI (4 + k) from nI_add 4 k, ck_t (inb_n (show 4 + k < 132 by omega) (by decide)), s_at, bI_some, ck_t (inb_n (show 440 * k + 4 * r < 2200 by omega) (by decide)), nI_tn (by omega), nI_tn (by omega), nI_tn (by omega), hL (k + 1) (by omega) (by omega) _ (by omega), hL k (by omega) (by omega) _ (by omega), hw, hw2, hc, (hT.2.1 k hk).1, nI_mul, nI_dec]
      have hPd : Pm (zt τ) (pt τ) (τ 3) k r (m + 1) = (match ls (zt τ) (pt τ) (τ 3) (k + 1) (r - (m + 1) * zt τ k), ls (zt τ) (pt τ) (τ 3) k r with
        | some c', some c => decide (c' + (m + 1) * pt τ k = c)
        | _, _ => false) := rfl
      rw [show ls (zt τ) (pt τ) (τ 3) k r = some c from hc] at hPd
      have hrec : ∀ (hne : Pm (zt τ) (pt τ) (τ 3) k r (m + 1) = false), l_X9_findPlan_239 K295 g x2 (nI (4 * r)) (nI k) (nI m) I = K295 x2 (nI (4 * r)) (nI k) (nI (moF (Pm (zt τ) (pt τ) (τ 3) k r) (m + 1))) I := by
        intro hne
        obtain ⟨j, hj, hP⟩ := hex
        rw [ih g (by omega) (by omega) ⟨j, by
          have : j ≠ m + 1 := fun e => by rw [e, hne] at hP; cases hP
          omega, hP⟩]
        have : moF (Pm (zt τ) (pt τ) (τ 3) k r) (m + 1) = if Pm (zt τ) (pt τ) (τ 3) k r (m + 1) = true then m + 1 else moF (Pm (zt τ) (pt τ) (τ 3) k r) m := rfl
        rw [this, hne]
        rfl
      unfold lt'
      cases h1 : ls (zt τ) (pt τ) (τ 3) (k + 1) (r - (m + 1) * zt τ k) with
      | none =>
        rw [h1] at hPd
        rw [if_neg (show ¬ eM none + nI ((m + 1) * τ (4 + k)) = eM (some c) by
          show ¬ nI 1000000 + nI ((m + 1) * τ (4 + k)) = nI c
          rw [nI_add]
          exact fun q => absurd ((nI_eq (by omega) (by omega)).mp q) (by omega))]
        exact hrec hPd
      | some c' =>
        rw [h1] at hPd
        have hb' := ls_le ho (show k + 1 ≤ τ 3 by omega) h1
        by_cases he : c' + (m + 1) * pt τ k = c
        · rw [if_pos (show eM (some c') + nI ((m + 1) * τ (4 + k)) = eM (some c) by
            show nI c' + nI ((m + 1) * τ (4 + k)) = nI c
            rw [nI_add]
            exact congrArg nI he)]
          have h2 : Pm (zt τ) (pt τ) (τ 3) k r (m + 1) = true := by
            rw [hPd]
            exact decide_eq_true he
          have : moF (Pm (zt τ) (pt τ) (τ 3) k r) (m + 1) = if Pm (zt τ) (pt τ) (τ 3) k r (m + 1) = true then m + 1 else moF (Pm (zt τ) (pt τ) (τ 3) k r) m := rfl
          rw [this, if_pos h2]
        · rw [if_neg (show ¬ eM (some c') + nI ((m + 1) * τ (4 + k)) = eM (some c) by
            show ¬ nI c' + nI ((m + 1) * τ (4 + k)) = nI c
            rw [nI_add]
            have hmp' : (m + 1) * pt τ k ≤ 107 * 99 := hmp
            exact fun q => he ((nI_eq (a := c' + (m + 1) * pt τ k) (b := c) (by omega) (by omega)).mp q))]
          exact hrec (by
            rw [hPd]
            exact decide_eq_false he)
  exact key (r / zt τ k) fuel (Nat.le_refl _) (by rw [fuel_v]; omega) hPm0
theorem s_fp223 {τ : Td} (hW : WF τ) {n : Nat} (hn : n ≤ 400) (K322 : Mem → Option Mem) {I : Mem} (hT : TM (I 91) τ) (hL : LM I τ 0) : l_X9_findPlan_223 K322 fuel (nI (τ 3)) (nI (4 * un τ n)) 0 I = K322 (fil I 102 (fun k => nI (plF τ n k)) (τ 3)) := by
  have hS := hW.2.2.2.1.2
  obtain ⟨-, hu, -, -⟩ := un_spec hW hn
  have key := iter_loop (fun f x (s : Int32 × Mem) => l_X9_findPlan_223 K322 f (nI (τ 3)) s.1 x s.2) (K322 (fil I 102 (fun k => nI (plF τ n k)) (τ 3))) 0 (τ 3) (fun k => (nI (4 * rsT τ n k), fil I 102 (fun k => nI (plF τ n k)) k)) (Nat.zero_le _) ?_ ?_ fuel (by rw [fuel_v]; omega)
  · have e := key
    dsimp only at e
    rw [fil_0] at e
    exact e
  · intro f k _ hk
    show l_X9_findPlan_223 _ (f + 1) (nI (τ 3)) (nI (4 * rsT τ n k)) (nI k) (fil I 102 (fun k => nI (plF τ n k)) k) = l_X9_findPlan_223 _ f (nI (τ 3)) (nI (4 * rsT τ n (k + 1))) (nI (k + 1)) (fil I 102 (fun k => nI (plF τ n k)) (k + 1))
    have hr := rsT_le (n := n) k (Nat.le_of_lt hk)
    obtain ⟨hz, hz8, -⟩ := okz_of hW k hk
    have hT' : TM (fil I 102 (fun k => nI (plF τ n k)) k 91) τ := by rw [fil_row (by decide)]; exact hT
    have hL' : LM (fil I 102 (fun k => nI (plF τ n k)) k) τ 0 := fun j a b u hu => by rw [fil_row (by decide)]; exact hL j a b u hu
    have hT2 : TM (fil I 102 (fun k => nI (plF τ n k)) (k + 1) 91) τ := by rw [fil_row (by decide)]; exact hT
    obtain ⟨hp, c, c', h1, h2, h3⟩ := plF_spec hW hn hk
    have e4 : plF τ n k * (4 * zt τ k) = 4 * (plF τ n k * zt τ k) := by rw [Nat.mul_left_comm]
    rw [u_X9_findPlan_223]
    unfold b_X9_findPlan_223
    rw [if_neg (nI_ge hk (by omega)), s_pagesOf9 hW hT' hk, bI_some, pg_4 hW hk, ck_t (by
      have : ¬ nI (4 * zt τ k) = 0 := nI_ne0 (by omega) (by omega)
      simp [this]), nI_div (by omega) (by omega), Nat.mul_div_mul_left _ _ (by decide : 0 < 4), s_fp239 hW _ _ hT' hL' hk (by omega) h1]
    try dsimp only
    rw [ck_t (inb_n (show k < 4 by omega) (by decide)), nI_tn (by omega), ← plF_lt hk, fil_e (v := fun k => nI (plF τ n k)) rfl, s_pagesOf9 hW hT2 hk, bI_some, pg_4 hW hk, nI_mul, e4, nI_sub (by omega) (by omega), nI_1, rsT_S hk, Nat.mul_sub]
  · intro f
    show l_X9_findPlan_223 _ (f + 1) (nI (τ 3)) (nI (4 * rsT τ n (τ 3))) (nI (τ 3)) (fil I 102 (fun k => nI (plF τ n k)) (τ 3)) = _
    rw [u_X9_findPlan_223]
    unfold b_X9_findPlan_223
    rw [if_pos (nI_le (Nat.le_refl _) (by omega))]
theorem s_findPlan {I : Mem} {τ : Td} (hW : WF τ) (hT : TM (I 91) τ) {n : Nat} (hn : n ≤ 400) : ∃ I', f_X9_findPlan (nI n) I = some I' ∧ I' 89 20 = nI (4 * un τ n) ∧ (∀ k, k < 4 → I' 102 k = nI (plF τ n k)) ∧ (∀ r, r ≠ 89 → r ≠ 101 → r ≠ 102 → I' r = I r) ∧ ∀ j, j ≠ 20 → I' 89 j = I 89 j := by
  have hS := hW.2.2.2.1.2
  unfold f_X9_findPlan
  rw [hT.1 3 (by decide), s_fp9 _ hS]
  try dsimp only
  generalize hM : fio I 101 (440 * τ 3) (fun t => eM (tc τ (τ 3) t)) 440 = M
  have hr : ∀ r, r ≠ 101 → M r = I r := fun r h => by rw [← hM, fio_row h]
  rw [show nI (τ 3) - 1 = nI (τ 3) + -1 by rw [Int32.sub_eq_add_neg]]
  obtain ⟨I1, a1, a2, a3⟩ := s_fp46 hW (fun (z27 : Int32) (z28 : Int32) I29 => l_X9_findPlan_161 (fun (z33 : Int32) I34 => l_X9_findPlan_200 (fun (z36 : Int32) (z37 : Int32) I38 => l_X9_findPlan_223 (fun I59 => some I59) fuel z36 z37 (0 : Int32) I38) fuel z33 (I34 89 20) (0 : Int32) I34) fuel z28 (stm I29 89 20 z27)) (nI n) (nI (τ 3)) (τ 3) M (Nat.le_refl _) (by rw [hr _ (by decide)]; exact hT) (fun j h1 h2 t ht => by rw [show j = τ 3 by omega, ← hM, fio_in ht]) fuel (by rw [fuel_v]; omega)
  rw [a1, s_fp161 hW hn _ _ a2]
  try dsimp only
  rw [stm_at, s_fp200]
  try dsimp only
  generalize hN : fil (stm I1 89 20 (nI (4 * un τ n))) 102 (fun _ => 0) 4 = N
  have hT3 : TM (N 91) τ := by rw [← hN, fil_row (by decide), stm_row (by decide), a3 _ (by decide), hr _ (by decide)]; exact hT
  rw [s_fp223 hW hn _ hT3 (fun j x y t ht => by rw [← hN, fil_row (by decide), stm_row (by decide)]; exact a2 j x y t ht)]
  refine ⟨_, rfl, ?_, ?_, ?_, ?_⟩
  · rw [fil_row (by decide), ← hN, fil_row (by decide), stm_at]
  · intro k hk
    by_cases h : k < τ 3
    · rw [fil_lt h]
    · rw [fil_ge (by omega), ← hN, fil_lt hk, plF_ge (by omega)]
      rfl
  · intro r h1 h2 h3
    rw [fil_row h3, ← hN, fil_row h3, stm_row h1, a3 r h2, hr r h2]
  · intro j hj
    rw [fil_row (by decide), ← hN, fil_row (by decide), stm_ne hj, a3 _ (by decide), hr _ (by decide)]
