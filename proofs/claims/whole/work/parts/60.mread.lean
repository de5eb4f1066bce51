/-! READING A TEXT: the reference -/
def bt (x : Nat → Nat) (L k : Nat) : Nat := if k < L then x k else 0
theorem s_bt {J : Mem} {L : Nat} {x : Nat → Nat} (h : TXm J L x) {i : Nat} (hi : i < 300) : f_X9_byteAt (nI i) J = some (nI (bt x L i), J) := by
  rw [s_byteAt h hi]
  unfold bt
  by_cases q : i < L
  · rw [if_pos q, if_pos q]
  · rw [if_neg q, if_neg q]; rfl
theorem bt_lt {J : Mem} {L : Nat} {x : Nat → Nat} (h : TXm J L x) (i : Nat) : bt x L i < 127 := by
  unfold bt
  by_cases q : i < L
  · rw [if_pos q]; have := (h.2.2 i q).2; omega
  · rw [if_neg q]; decide
theorem bt_of {L : Nat} {x : Nat → Nat} {i : Nat} (h : bt x L i ≠ 0) : i < L ∧ bt x L i = x i := by
  by_cases q : i < L
  · exact ⟨q, if_pos q⟩
  · exact absurd (if_neg q) h
theorem bt_in {L : Nat} {x : Nat → Nat} {i : Nat} (h : i < L) : bt x L i = x i := if_pos h
theorem TXm.same {I J : Mem} {L : Nat} {x : Nat → Nat} (h : TXm I L x) (e0 : J 89 0 = I 89 0) (e1 : J 90 = I 90) : TXm J L x := by
  unfold TXm
  rw [e0, e1]
  exact h
theorem stm_self (I : Mem) (a k : Nat) : stm I a k (I a k) = I := by
  funext i j
  rw [stm_get]
  by_cases h : i = a ∧ j = k
  · rw [if_pos h, h.1, h.2]
  · rw [if_neg h]
theorem TXm.s6 {J : Mem} {L : Nat} {x : Nat → Nat} (h : TXm J L x) (v : Int32) : TXm (stm J 89 6 v) L x := h.same (stm_ne (by decide)) (stm_row (by decide))
theorem TXm.s93 {J : Mem} {L : Nat} {x : Nat → Nat} (h : TXm J L x) (k : Nat) (v : Int32) : TXm (stm J 93 k v) L x := h.same (by rw [stm_row (by decide)]) (stm_row (by decide))
theorem dig_in {c : Nat} (hc : c < 127) (I : Mem) : (dig c → f_X9_in (nI c).toInt64 (48 : Int64) (57 : Int64) I = some (1, I)) ∧ (¬ dig c → f_X9_in (nI c).toInt64 (48 : Int64) (57 : Int64) I = some (0, I)) := by
  constructor
  · intro h
    exact in_k (b := 48) (c := 57) (by omega) rfl rfl h.1 h.2 I
  · intro h
    unfold dig at h
    exact in_no (b := 48) (c := 57) rfl rfl (by rw [nI_toInt (by omega)]; omega) I
theorem s_fig5 {L : Nat} {x : Nat → Nat} (K : Int32 → Int32 → Int32 → Int32 → Mem → Option (Int32 × Mem)) (lo hi : Int32) {b : Nat} (hb : b ≤ L) : ∀ (m n f : Nat) (J : Mem), n + m = 3 → m < f → TXm J L x → J 89 6 = nI (b + n) → (∀ i, i < n → b + i < L ∧ dig (x (b + i))) → ∃ d, d ≤ 3 ∧ (∀ i, i < d → b + i < L ∧ dig (x (b + i))) ∧ (d = 3 ∨ ¬ dig (bt x L (b + d))) ∧ l_X9_figures_5 K f lo hi (nI (vl x b n)) (nI n) J = K lo hi (nI (vl x b d)) (nI d) (stm J 89 6 (nI (b + d))) := by
  intro m
  induction m with
  | zero =>
    intro n f J hn hf hX h6 hd
    obtain ⟨g, rfl⟩ : ∃ g, f = g + 1 := ⟨f - 1, by omega⟩
    refine ⟨n, by omega, hd, Or.inl (by omega), ?_⟩
    rw [u_X9_figures_5]
    unfold b_X9_figures_5
    rw [if_pos (show (3 : Int32) ≤ nI n from nI_le (a := 3) (by omega) (by omega)), ← h6, stm_self]
  | succ m ih =>
    intro n f J hn hf hX h6 hd
    obtain ⟨g, rfl⟩ : ∃ g, f = g + 1 := ⟨f - 1, by omega⟩
    have h200 := hX.2.1
    have hbt := bt_lt hX (b + n)
    rw [u_X9_figures_5]
    unfold b_X9_figures_5
    rw [if_neg (show ¬ (3 : Int32) ≤ nI n from nI_ge (a := n) (b := 3) (by omega) (by decide)), h6, s_bt hX (by omega), bI_some]
    by_cases hD : dig (bt x L (b + n))
    · obtain ⟨h1, h2⟩ := bt_of (x := x) (L := L) (i := b + n) (by unfold dig at hD; omega)
      have hd' : ∀ i, i < n + 1 → b + i < L ∧ dig (x (b + i)) := by
        intro i hi
        by_cases e : i = n
        · rw [e]; exact ⟨h1, h2 ▸ hD⟩
        · exact hd i (by omega)
      have hv := vl_1000 (x := x) (b := b) (d := n) (by omega) (fun i hi => (hd i hi).2)
      rw [(dig_in hbt J).1 hD, bI_some, if10, h6, s_bt hX (by omega), bI_some, h6, h2, (vl_step (h2 ▸ hD)).resolve_right (by omega), nI_1, nI_1]
      obtain ⟨d, d1, d2, d3, d4⟩ := ih (n + 1) g (stm J 89 6 (nI (b + n + 1))) (by omega) (by omega) (hX.s6 _) (by rw [stm_at]; rfl) hd'
      refine ⟨d, d1, d2, d3, ?_⟩
      rw [d4, stm_stm]
    · rw [(dig_in hbt J).2 hD, bI_some, if00]
      refine ⟨n, by omega, hd, Or.inr hD, ?_⟩
      rw [← h6, stm_self]
theorem in_32 (v lo hi : Int32) (I : Mem) : f_X9_in v.toInt64 lo.toInt64 hi.toInt64 I = some (if lo.toInt ≤ v.toInt ∧ v.toInt ≤ hi.toInt then 1 else 0, I) := f_in (Int32.toInt_toInt64 v) (Int32.toInt_toInt64 lo) (Int32.toInt_toInt64 hi) I
/-- d figures stand from b on, and no more are read -/
def runD (x : Nat → Nat) (L b d : Nat) : Prop := d ≤ 3 ∧ (∀ i, i < d → b + i < L ∧ dig (x (b + i))) ∧ (d = 3 ∨ ¬ dig (bt x L (b + d)))
theorem s_figures {J : Mem} {L : Nat} {x : Nat → Nat} (hX : TXm J L x) {b : Nat} (hb : b ≤ L) (h6 : J 89 6 = nI b) (lo hi : Int32) : ∃ d, runD x L b d ∧ ((0 < d ∧ lo.toInt ≤ (vl x b d : Int) ∧ (vl x b d : Int) ≤ hi.toInt) → f_X9_figures lo hi J = some (nI (vl x b d), stm J 89 6 (nI (b + d)))) ∧ (¬ (0 < d ∧ lo.toInt ≤ (vl x b d : Int) ∧ (vl x b d : Int) ≤ hi.toInt) → f_X9_figures lo hi J = some (-1, stm J 89 6 (nI (b + d)))) := by
  obtain ⟨d, d1, d2, d3, d4⟩ := s_fig5 (L := L) (x := x) (fun (z7 : Int32) (z8 : Int32) (z9 : Int32) (z10 : Int32) I11 => j_X9_figures_65 z7 z8 z9 z10 I11) lo hi hb 3 0 fuel J rfl (by rw [fuel_v]; decide) hX h6 (fun i hi => by omega)
  have hv := vl_1000 (x := x) (b := b) (d := d) (by omega) (fun i hi => (d2 i hi).2)
  have e : f_X9_figures lo hi J = j_X9_figures_65 lo hi (nI (vl x b d)) (nI d) (stm J 89 6 (nI (b + d))) := d4
  refine ⟨d, ⟨d1, d2, d3⟩, fun h => ?_, fun h => ?_⟩
  · rw [e]
    unfold j_X9_figures_65
    rw [if_neg (show ¬ nI d ≤ (0 : Int32) from nI_ge (a := 0) h.1 (by omega)), in_32, nI_toInt (by omega), if_pos h.2, bI_some, if10]
  · rw [e]
    unfold j_X9_figures_65
    by_cases h0 : 0 < d
    · rw [if_neg (show ¬ nI d ≤ (0 : Int32) from nI_ge (a := 0) h0 (by omega)), in_32, nI_toInt (by omega), if_neg (fun q => h ⟨h0, q⟩), bI_some, if00]
    · rw [if_pos (show nI d ≤ (0 : Int32) from nI_le (b := 0) (by omega) (by decide))]
theorem runD.eq {x : Nat → Nat} {L b d e : Nat} (h : runD x L b d) (hn : nOk x b e) (he : e < L) (hx : ¬ dig (x e)) : d = e - b := by
  obtain ⟨h1, h2, h3⟩ := h
  obtain ⟨n1, n2, n3⟩ := hn
  rcases Nat.lt_trichotomy d (e - b) with g | g | g
  · rcases h3 with h3 | h3
    · omega
    · rw [bt_in (by omega)] at h3
      exact absurd (n3 (b + d) (by omega) (by omega)) h3
  · exact g
  · have := (h2 (e - b) g).2
    rw [show b + (e - b) = e by omega] at this
    exact absurd this hx
theorem runD.ok {x : Nat → Nat} {L b d : Nat} (h : runD x L b d) (h0 : 0 < d) : nOk x b (b + d) := by
  refine ⟨by omega, by have := h.1; omega, fun i hi1 hi2 => ?_⟩
  have := (h.2.1 (i - b) (by omega)).2
  rwa [show b + (i - b) = i by omega] at this
theorem runD.le {x : Nat → Nat} {L b d : Nat} (h : runD x L b d) (hb : b ≤ L) : b + d ≤ L := by
  by_cases h0 : 0 < d
  · have := (h.2.1 (d - 1) (by omega)).1
    omega
  · omega
theorem s_tells {J : Mem} {L : Nat} {x : Nat → Nat} (hX : TXm J L x) {b : Nat} (hb : b ≤ L) (h6 : J 89 6 = nI b) {p : Nat} (hp : p < 132) (lo hi : Nat) (hlo : lo < 1000) (hhi : hi < 1000) : ∃ d, runD x L b d ∧ ((0 < d ∧ lo ≤ vl x b d ∧ vl x b d ≤ hi) → f_X9_tells (nI p) (nI lo) (nI hi) J = some (1, stm (stm J 89 6 (nI (b + d))) 93 p (nI (vl x b d)))) ∧ (¬ (0 < d ∧ lo ≤ vl x b d ∧ vl x b d ≤ hi) → f_X9_tells (nI p) (nI lo) (nI hi) J = some (0, stm (stm J 89 6 (nI (b + d))) 93 p (-1))) := by
  obtain ⟨d, d1, d2, d3⟩ := s_figures hX hb h6 (nI lo) (nI hi)
  rw [nI_toInt (by omega), nI_toInt (by omega)] at d2 d3
  have hv := vl_1000 (x := x) (b := b) (d := d) d1.1 (fun i hi => (d1.2.1 i hi).2)
  refine ⟨d, d1, fun h => ?_, fun h => ?_⟩
  · unfold f_X9_tells
    rw [d2 (by omega), bI_some, ck_t (inb_n hp (by decide)), nI_tn (by omega), if_neg (nI_m1 (by omega))]
  · unfold f_X9_tells
    rw [d3 (by omega), bI_some, ck_t (inb_n hp (by decide)), nI_tn (by omega), if_pos rfl]
/-- what is read so far, the reference's row -/
def TMr (g : Nat → Int32) (ρ : Td) : Prop := (∀ i, i < 4 → g i = nI (ρ i)) ∧ (∀ k, k < 4 → g (4 + k) = nI (if k < ρ 3 then ρ (4 + k) else 10)) ∧ (∀ k, k < ρ 3 → g (8 + 5 * k) = nI (ρ (8 + k)) ∧ ∀ i, i < ρ (8 + k) → g (8 + 5 * k + 1 + i) = nI (letN (fig (ρ (8 + k)) (ρ (12 + k)) i))) ∧ ∀ j, j < 104 → g (28 + j) = 0
theorem TMr.tm {g : Nat → Int32} {ρ : Td} (h : TMr g ρ) (hW : WFr ρ) : TM g ρ := by
  obtain ⟨h1, h2, h3, h4⟩ := h
  have hS := hW.2.2.2.1
  refine ⟨h1, fun k hk => ⟨?_, h3 k hk⟩, fun j hj => ?_, fun j hj => ?_⟩
  · rw [h2 k (by omega), if_pos hk]
  · rw [h4 j (by omega), hW.2.2.2.2.2 j hj]; rfl
  · have := h4 (100 + j) (by omega)
    rwa [show 28 + (100 + j) = 128 + j by omega] at this
theorem TMr.num {g g' : Nat → Int32} {ρ : Td} (h : TMr g ρ) (hW : WFr ρ) {i v : Nat} (hi : i < 3) (hv : g' i = nI v) (hg : ∀ j, j ≠ i → g' j = g j) : TMr g' (rdT ρ i v) := by
  obtain ⟨h1, h2, h3, h4⟩ := h
  have hS := hW.2.2.2.1
  have e3 : rdT ρ i v 3 = ρ 3 := rdT_ne (by omega)
  refine ⟨fun j hj => ?_, fun k hk => ?_, ?_, fun j hj => ?_⟩
  · by_cases e : j = i
    · rw [e, hv, rdT_at]
    · rw [hg j e, rdT_ne e, h1 j hj]
  · rw [hg _ (by omega), e3, rdT_ne (by omega)]
    exact h2 k hk
  · rw [e3]
    intro k hk
    rw [hg _ (by omega), rdT_ne (show 8 + k ≠ i by omega), rdT_ne (show 12 + k ≠ i by omega)]
    refine ⟨(h3 k hk).1, fun j hj => ?_⟩
    rw [hg _ (by omega)]
    exact (h3 k hk).2 j hj
  · rw [hg _ (by omega)]
    exact h4 j hj
theorem TMr.price {g g' : Nat → Int32} {ρ : Td} (h : TMr g ρ) (hW : WFr ρ) {t v : Nat} (ht : t < ρ 3) (hv : g' (4 + t) = nI v) (hg : ∀ j, j ≠ 4 + t → g' j = g j) : TMr g' (rdT ρ (4 + t) v) := by
  obtain ⟨h1, h2, h3, h4⟩ := h
  have hS := hW.2.2.2.1
  have e3 : rdT ρ (4 + t) v 3 = ρ 3 := rdT_ne (by omega)
  refine ⟨fun j hj => ?_, fun k hk => ?_, ?_, fun j hj => ?_⟩
  · rw [hg j (by omega), rdT_ne (by omega), h1 j hj]
  · rw [e3]
    by_cases e : k = t
    · rw [e, hv, if_pos ht, rdT_at]
    · rw [hg _ (by omega), rdT_ne (by omega)]
      exact h2 k hk
  · rw [e3]
    intro k hk
    rw [hg _ (by omega), rdT_ne (show 8 + k ≠ 4 + t by omega), rdT_ne (show 12 + k ≠ 4 + t by omega)]
    refine ⟨(h3 k hk).1, fun j hj => ?_⟩
    rw [hg _ (by omega)]
    exact (h3 k hk).2 j hj
  · rw [hg _ (by omega)]
    exact h4 j hj
/-- what reading leaves as it is -/
def FR (J J' : Mem) : Prop := (∀ r, r ≠ 89 → r ≠ 93 → J' r = J r) ∧ ∀ j, j ≠ 6 → J' 89 j = J 89 j
theorem FR.refl (J : Mem) : FR J J := ⟨fun _ _ _ => rfl, fun _ _ => rfl⟩
theorem FR.trans {A B C : Mem} (h : FR A B) (g : FR B C) : FR A C := ⟨fun r a b => by rw [g.1 r a b, h.1 r a b], fun j a => by rw [g.2 j a, h.2 j a]⟩
theorem FR.s6 (J : Mem) (v : Int32) : FR J (stm J 89 6 v) := ⟨fun r a _ => stm_row a, fun j a => stm_ne a⟩
theorem FR.s93 (J : Mem) (k : Nat) (v : Int32) : FR J (stm J 93 k v) := ⟨fun r _ a => stm_row a, fun j _ => by rw [stm_row (by decide)]⟩
theorem FR.tx {J J' : Mem} {L : Nat} {x : Nat → Nat} (h : FR J J') (hX : TXm J L x) : TXm J' L x := hX.same (h.2 0 (by decide)) (h.1 90 (by decide) (by decide))
/-- the reference reads an item whose first letter stands at a -/
def ItO (x : Nat → Nat) (L : Nat) (ρ : Td) (a : Nat) (J : Mem) (f : Option (Int32 × Mem)) : Prop := ∃ (r : Int32) (J' : Mem) (s : Nat), f = some (r, J') ∧ FR J J' ∧ J' 89 6 = nI s ∧ s < 300 ∧ (r = 0 ∨ r = 1) ∧ (∀ e ρ', Item x L ρ a e ρ' → r = 1 ∧ s = e ∧ TMr (J' 93) ρ') ∧ (r = 1 → bt x L s = 59 → ∃ ρ', Item x L ρ a s ρ')
theorem ItO.no {x : Nat → Nat} {L : Nat} {ρ : Td} {a : Nat} {J J' : Mem} {f : Option (Int32 × Mem)} {s : Nat} (hf : f = some (0, J')) (hr : FR J J') (h6 : J' 89 6 = nI s) (hs : s < 300) (hno : ∀ e ρ', ¬ Item x L ρ a e ρ') : ItO x L ρ a J f := ⟨0, J', s, hf, hr, h6, hs, Or.inl rfl, fun e ρ' h => absurd h (hno e ρ'), fun h => absurd h (by decide)⟩
theorem i_num {J : Mem} {L : Nat} {x : Nat → Nat} {ρ : Td} (hX : TXm J L x) (hW : WFr ρ) (hT : TMr (J 93) ρ) {a i : Nat} (ha : a < L) (hi : i < 3) (hk : x a = kyN i) (h6 : J 89 6 = nI (a + 1)) : ItO x L ρ a J (f_X9_tells (nI i) (nI (loN i)) (nI (hiN i)) J) := by
  have h200 := hX.2.1
  have hlo := loN_le i
  have hhi := hiN_le i
  obtain ⟨d, d1, d2, d3⟩ := s_tells hX (b := a + 1) (by omega) h6 (p := i) (by omega) (loN i) (hiN i) (by omega) (by omega)
  have hle := d1.le (b := a + 1) (by omega)
  have hit : ∀ e ρ', Item x L ρ a e ρ' → e = a + 1 + d ∧ nOk x (a + 1) e ∧ loN i ≤ vl x (a + 1) d ∧ vl x (a + 1) d ≤ hiN i ∧ ρ' = rdT ρ i (vl x (a + 1) d) := by
    intro e ρ' h
    rcases h.2.2.2 with ⟨i', j1, j2, j3, j4, j5, j6⟩ | ⟨j1, -⟩ | ⟨j1, -⟩
    · have hii : i' = i := by
        have hh : kyN i' = kyN i := by rw [← j2, hk]
        match i, i', hi, j1, hh with
        | 0, 0, _, _, _ => rfl
        | 1, 1, _, _, _ => rfl
        | 2, 2, _, _, _ => rfl
        | 0, 1, _, _, hh => exact absurd hh (by decide)
        | 0, 2, _, _, hh => exact absurd hh (by decide)
        | 1, 0, _, _, hh => exact absurd hh (by decide)
        | 1, 2, _, _, hh => exact absurd hh (by decide)
        | 2, 0, _, _, hh => exact absurd hh (by decide)
        | 2, 1, _, _, hh => exact absurd hh (by decide)
      subst hii
      have hde := d1.eq j3 h.2.1 (by rw [h.2.2.1]; unfold dig; omega)
      have := j3.1
      rw [← hde] at j4 j5 j6
      exact ⟨by omega, j3, j4, j5, j6⟩
    · have := kyN_3 hi; omega
    · have := kyN_3 hi; omega
  by_cases hc : 0 < d ∧ loN i ≤ vl x (a + 1) d ∧ vl x (a + 1) d ≤ hiN i
  · refine ⟨1, _, a + 1 + d, d2 hc, (FR.s6 _ _).trans (FR.s93 _ _ _), ?_, by omega, Or.inr rfl, fun e ρ' h => ?_, fun _ h59 => ?_⟩
    · rw [stm_row (by decide), stm_at]
    · obtain ⟨e1, e2, e3, e4, e5⟩ := hit e ρ' h
      refine ⟨rfl, e1.symm, ?_⟩
      rw [e5]
      refine hT.num hW hi (stm_at _ _ _ _) (fun j hj => ?_)
      rw [stm_ne hj, stm_row (by decide)]
    · obtain ⟨b1, b2⟩ := bt_of (x := x) (L := L) (i := a + 1 + d) (by omega)
      refine ⟨rdT ρ i (vl x (a + 1) d), by omega, b1, by rw [← b2]; exact h59, Or.inl ⟨i, hi, hk, d1.ok hc.1, ?_⟩⟩
      rw [show a + 1 + d - (a + 1) = d by omega]
      exact ⟨hc.2.1, hc.2.2, rfl⟩
  · refine ItO.no (s := a + 1 + d) (d3 hc) ((FR.s6 _ _).trans (FR.s93 _ _ _)) ?_ (by omega) (fun e ρ' h => ?_)
    · rw [stm_row (by decide), stm_at]
    · obtain ⟨e1, e2, e3, e4, e5⟩ := hit e ρ' h
      exact hc ⟨by have := e2.1; omega, e3, e4⟩
theorem ItO.ck {x : Nat → Nat} {L : Nat} {ρ : Td} {a : Nat} {J : Mem} {f : Option (Int32 × Mem)} (h : ItO x L ρ a J f) : ItO x L ρ a J (bI f fun r I => ck (r == 0 || r == 1) <| some (r, I)) := by
  obtain ⟨r, J', s, h1, h2⟩ := h
  refine ⟨r, J', s, ?_, h2⟩
  rw [h1, bI_some]
  rcases h2.2.2.2.1 with e | e
  · rw [e]; rfl
  · rw [e]; rfl
theorem i_price {J : Mem} {L : Nat} {x : Nat → Nat} {ρ : Td} (hX : TXm J L x) (hW : WFr ρ) (hT : TMr (J 93) ρ) {a : Nat} (ha : a < L) (hk : x a = 112) (h6 : J 89 6 = nI (a + 1)) : ItO x L ρ a J (bI (f_X9_figures (0 : Int32) ((J 93 3) - (1 : Int32)) J) fun r28 I27 => (if r28 = (-1 : Int32) then some ((0 : Int32), (stm I27 89 6 ((I27 89 6) + (1 : Int32)))) else bI (f_X9_byteAt (((stm I27 89 6 ((I27 89 6) + (1 : Int32))) 89 6) - (1 : Int32)) (stm I27 89 6 ((I27 89 6) + (1 : Int32)))) fun r30 I29 => (if r30 = (44 : Int32) then bI (f_X9_tells ((4 : Int32) + r28) (0 : Int32) (99 : Int32) I29) fun r32 I31 => (if r32 = 0 then some ((0 : Int32), I31) else some ((1 : Int32), I31)) else some ((0 : Int32), I29)))) := by
  have h200 := hX.2.1
  have hS := hW.2.2.2.1
  have hhi : (J 93 3 - (1 : Int32)).toInt = (ρ 3 : Int) - 1 := by
    rw [hT.1 3 (by decide), sub_T, nI_toInt (by omega)]
    · rfl
    · rw [nI_toInt (by omega), show (1 : Int32).toInt = 1 from rfl]; omega
    · rw [nI_toInt (by omega), show (1 : Int32).toInt = 1 from rfl]; omega
  obtain ⟨d, d1, d2, d3⟩ := s_figures hX (b := a + 1) (by omega) h6 (0 : Int32) (J 93 3 - (1 : Int32))
  rw [hhi, show (0 : Int32).toInt = 0 from rfl] at d2 d3
  have hle := d1.le (b := a + 1) (by omega)
  have hv1 := vl_1000 (x := x) (b := a + 1) (d := d) d1.1 (fun i hi => (d1.2.1 i hi).2)
  have hit : ∀ e ρ', Item x L ρ a e ρ' → 0 < d ∧ x (a + 1 + d) = 44 ∧ a + 1 + d < e ∧ e < L ∧ x e = 59 ∧ nOk x (a + 1 + d + 1) e ∧ vl x (a + 1) d < ρ 3 ∧ vl x (a + 1 + d + 1) (e - (a + 1 + d + 1)) ≤ 99 ∧ ρ' = rdT ρ (4 + vl x (a + 1) d) (vl x (a + 1 + d + 1) (e - (a + 1 + d + 1))) := by
    intro e ρ' h
    rcases h.2.2.2 with ⟨i', j1, j2, -⟩ | ⟨-, m, n1, n2, n3, n4, n5, n6, n7⟩ | ⟨j1, -⟩
    · have := kyN_3 j1; omega
    · have hde := d1.eq n3 (by have := h.2.1; omega) (by rw [n2]; unfold dig; omega)
      have := n3.1
      obtain rfl : m = a + 1 + d := by omega
      rw [← hde] at n5 n7
      exact ⟨by omega, n2, n1, h.2.1, h.2.2.1, n4, n5, n6, n7⟩
    · omega
  by_cases hc : 0 < d ∧ (0 : Int) ≤ (vl x (a + 1) d : Int) ∧ (vl x (a + 1) d : Int) ≤ (ρ 3 : Int) - 1
  rotate_left 1
  · refine ItO.no (s := a + 1 + d + 1) (J' := stm J 89 6 (nI (a + 1 + d + 1))) ?_ (FR.s6 _ _) (stm_at _ _ _ _) (by omega) (fun e ρ' h => ?_)
    · rw [d3 hc, bI_some, if_pos rfl, stm_at, nI_1, stm_stm]
    · have := hit e ρ' h
      exact hc ⟨this.1, by omega, by omega⟩
  have hX1 : TXm (stm J 89 6 (nI (a + 1 + d + 1))) L x := hX.s6 _
  have e1 : ∀ (K : Int32 → Mem → Option (Int32 × Mem)), bI (f_X9_byteAt (((stm (stm J 89 6 (nI (a + 1 + d))) 89 6 (((stm J 89 6 (nI (a + 1 + d))) 89 6) + (1 : Int32))) 89 6) - (1 : Int32)) (stm (stm J 89 6 (nI (a + 1 + d))) 89 6 (((stm J 89 6 (nI (a + 1 + d))) 89 6) + (1 : Int32)))) K = K (nI (bt x L (a + 1 + d))) (stm J 89 6 (nI (a + 1 + d + 1))) := by
    intro K
    rw [show (stm J 89 6 (nI (a + 1 + d))) 89 6 + (1 : Int32) = nI (a + 1 + d + 1) by rw [stm_at, nI_1], stm_stm, stm_at, show nI (a + 1 + d + 1) - (1 : Int32) = nI (a + 1 + d) from nI_sub (b := 1) (by omega) (by omega), s_bt hX1 (by omega), bI_some]
  rw [d2 hc, bI_some, if_neg (nI_m1 (by omega)), e1]
  have hbt := bt_lt hX (a + 1 + d)
  by_cases h44 : bt x L (a + 1 + d) = 44
  rotate_left 1
  · rw [if_neg (show ¬ nI (bt x L (a + 1 + d)) = (44 : Int32) from fun q => h44 ((nI_eq (b := 44) (by omega) (by decide)).mp q))]
    refine ItO.no (s := a + 1 + d + 1) rfl (FR.s6 _ _) (stm_at _ _ _ _) (by omega) (fun e ρ' h => ?_)
    have := hit e ρ' h
    exact h44 (by rw [bt_in (by omega)]; exact this.2.1)
  obtain ⟨b1, b2⟩ := bt_of (x := x) (L := L) (i := a + 1 + d) (by omega)
  rw [h44, if_pos (show nI 44 = (44 : Int32) from rfl), show (4 : Int32) + nI (vl x (a + 1) d) = nI (4 + vl x (a + 1) d) from nI_add 4 _]
  obtain ⟨d', g1, g2, g3⟩ := s_tells hX1 (b := a + 1 + d + 1) (by omega) (stm_at _ _ _ _) (p := 4 + vl x (a + 1) d) (by omega) 0 99 (by decide) (by decide)
  have hle' := g1.le (b := a + 1 + d + 1) (by omega)
  have hit2 : ∀ e ρ', Item x L ρ a e ρ' → e = a + 1 + d + 1 + d' ∧ 0 < d' ∧ vl x (a + 1 + d + 1) d' ≤ 99 ∧ ρ' = rdT ρ (4 + vl x (a + 1) d) (vl x (a + 1 + d + 1) d') := by
    intro e ρ' h
    obtain ⟨c1, c2, c3, c4, c5, c6, c7, c8, c9⟩ := hit e ρ' h
    have hde := g1.eq c6 c4 (by rw [c5]; unfold dig; omega)
    have := c6.1
    rw [← hde] at c8 c9
    exact ⟨by omega, by omega, c8, c9⟩
  by_cases hc2 : 0 < d' ∧ 0 ≤ vl x (a + 1 + d + 1) d' ∧ vl x (a + 1 + d + 1) d' ≤ 99
  rotate_left 1
  · refine ItO.no (s := a + 1 + d + 1 + d') (J' := stm (stm (stm J 89 6 (nI (a + 1 + d + 1))) 89 6 (nI (a + 1 + d + 1 + d'))) 93 (4 + vl x (a + 1) d) (-1)) ?_ ((FR.s6 _ _).trans ((FR.s6 _ _).trans (FR.s93 _ _ _))) ?_ (by omega) (fun e ρ' h => ?_)
    · have := g3 hc2
      exact (congrArg (fun z => bI z fun r32 I31 => (if r32 = 0 then some ((0 : Int32), I31) else some ((1 : Int32), I31))) this).trans rfl
    · rw [stm_row (by decide), stm_at]
    · obtain ⟨c1, c2, c3, c4⟩ := hit2 e ρ' h
      exact hc2 ⟨c2, Nat.zero_le _, c3⟩
  refine ⟨1, stm (stm (stm J 89 6 (nI (a + 1 + d + 1))) 89 6 (nI (a + 1 + d + 1 + d'))) 93 (4 + vl x (a + 1) d) (nI (vl x (a + 1 + d + 1) d')), a + 1 + d + 1 + d', ?_, (FR.s6 _ _).trans ((FR.s6 _ _).trans (FR.s93 _ _ _)), ?_, by omega, Or.inr rfl, fun e ρ' h => ?_, fun _ h59 => ?_⟩
  · have := g2 hc2
    exact (congrArg (fun z => bI z fun r32 I31 => (if r32 = 0 then some ((0 : Int32), I31) else some ((1 : Int32), I31))) this).trans rfl
  · rw [stm_row (by decide), stm_at]
  · obtain ⟨c1, c2, c3, c4⟩ := hit2 e ρ' h
    refine ⟨rfl, c1.symm, ?_⟩
    rw [c4]
    refine hT.price hW (by omega) (stm_at _ _ _ _) (fun j hj => ?_)
    rw [stm_ne hj, stm_row (by decide), stm_row (by decide)]
  · obtain ⟨f1, f2⟩ := bt_of (x := x) (L := L) (i := a + 1 + d + 1 + d') (by omega)
    have k1 := d1.ok hc.1
    have k2 := g1.ok hc2.1
    refine ⟨rdT ρ (4 + vl x (a + 1) d) (vl x (a + 1 + d + 1) d'), by omega, f1, by rw [← f2]; exact h59, Or.inr (Or.inl ⟨hk, a + 1 + d, by omega, by rw [← b2]; exact h44, k1, k2, ?_⟩)⟩
    rw [show a + 1 + d - (a + 1) = d by omega, show a + 1 + d + 1 + d' - (a + 1 + d + 1) = d' by omega]
    exact ⟨by omega, hc2.2.2, rfl⟩
theorem s_sch9l {J : Mem} {L : Nat} {x : Nat → Nat} (hX : TXm J L x) (K : Int32 → Int32 → Mem → Option (Int32 × Mem)) {b k : Nat} (hb : b ≤ L) (hk : k < 4) : ∀ (m n f : Nat) (J1 : Mem), n + m = 4 → m < f → FR J J1 → J1 89 6 = nI (b + n) → (∀ i, i < n → b + i < L ∧ isF (x (b + i))) → (∀ i, i < n → J1 93 (8 + 5 * k + 1 + i) = nI (x (b + i))) → (∀ j, j < 9 + 5 * k ∨ 9 + 5 * k + 4 ≤ j → J1 93 j = J 93 j) → ∃ n' J2, n' ≤ 4 ∧ (∀ i, i < n' → b + i < L ∧ isF (x (b + i))) ∧ (n' = 4 ∨ ¬ isF (bt x L (b + n'))) ∧ FR J J2 ∧ J2 89 6 = nI (b + n') ∧ (∀ i, i < n' → J2 93 (8 + 5 * k + 1 + i) = nI (x (b + i))) ∧ (∀ j, j < 9 + 5 * k ∨ 9 + 5 * k + 4 ≤ j → J2 93 j = J 93 j) ∧ l_X9_schemeItem_9 K f (nI k) (nI n) J1 = K (nI k) (nI n') J2 := by
  have h200 := hX.2.1
  intro m
  induction m with
  | zero =>
    intro n f J1 hn hf hr h6 hd hl ho
    obtain ⟨g, rfl⟩ : ∃ g, f = g + 1 := ⟨f - 1, by omega⟩
    refine ⟨n, J1, by omega, hd, Or.inl (by omega), hr, h6, hl, ho, ?_⟩
    rw [u_X9_schemeItem_9]
    unfold b_X9_schemeItem_9
    rw [if_neg (show ¬ (4 : Int32) ≤ nI k from nI_ge hk (by decide)), if_pos (show (4 : Int32) ≤ nI n from nI_le (a := 4) (by omega) (by omega))]
  | succ m ih =>
    intro n f J1 hn hf hr h6 hd hl ho
    obtain ⟨g, rfl⟩ : ∃ g, f = g + 1 := ⟨f - 1, by omega⟩
    have hX1 := hr.tx hX
    have hbt := bt_lt hX1 (b + n)
    have hbL : b + n ≤ L := by
      by_cases h0 : n = 0
      · omega
      · have := (hd (n - 1) (by omega)).1
        omega
    rw [u_X9_schemeItem_9]
    unfold b_X9_schemeItem_9
    rw [if_neg (show ¬ (4 : Int32) ≤ nI k from nI_ge hk (by decide)), if_neg (show ¬ (4 : Int32) ≤ nI n from nI_ge (a := n) (b := 4) (by omega) (by decide)), h6, s_bt hX1 (by omega), bI_some]
    by_cases hF : isF (bt x L (b + n))
    · obtain ⟨h1, h2⟩ := bt_of (x := x) (L := L) (i := b + n) (by unfold isF at hF; omega)
      rw [(s_isFold hbt J1).1 hF, bI_some, if10, h6, s_bt hX1 (by omega), bI_some, show (5 : Int32) * nI k = nI (5 * k) from nI_mul 5 k, show (8 : Int32) + nI (5 * k) = nI (8 + 5 * k) from nI_add 8 _, nI_1, nI_add, ck_t (inb_n (show 8 + 5 * k + 1 + n < 132 by omega) (by decide)), nI_tn (by omega), stm_row (show 89 ≠ 93 by decide), h6, nI_1, nI_1, h2]
      refine ih (n + 1) g _ (by omega) (by omega) (hr.trans ((FR.s93 _ _ _).trans (FR.s6 _ _))) (stm_at _ _ _ _) ?_ ?_ ?_
      · intro i hi
        by_cases e : i = n
        · rw [e]; exact ⟨h1, h2 ▸ hF⟩
        · exact hd i (by omega)
      · intro i hi
        rw [stm_row (by decide)]
        by_cases e : i = n
        · rw [e, stm_at]
        · rw [stm_ne (by omega)]
          exact hl i (by omega)
      · intro j hj
        rw [stm_row (by decide), stm_ne (by omega)]
        exact ho j hj
    · rw [(s_isFold hbt J1).2 hF, bI_some, if00]
      exact ⟨n, J1, by omega, hd, Or.inr hF, hr, h6, hl, ho, rfl⟩
theorem TMr.add {g g' : Nat → Int32} {ρ : Td} (h : TMr g ρ) (hW : WFr ρ) (hk : ρ 3 < 4) {x : Nat → Nat} {b n : Nat} (hn : n ≤ 4) (hF : ∀ i, i < n → isF (x (b + i))) (h3 : g' 3 = nI (ρ 3 + 1)) (h8 : g' (8 + 5 * ρ 3) = nI n) (hl : ∀ i, i < n → g' (8 + 5 * ρ 3 + 1 + i) = nI (x (b + i))) (ho : ∀ j, j ≠ 3 → j < 8 + 5 * ρ 3 ∨ 9 + 5 * ρ 3 + 4 ≤ j → g' j = g j) : TMr g' (adT ρ n (cdN x b n)) := by
  obtain ⟨h1, h2, h3', h4⟩ := h
  refine ⟨fun j hj => ?_, fun k hk4 => ?_, ?_, fun j hj => ?_⟩
  · by_cases e : j = 3
    · rw [e, h3, adT_3]
    · rw [ho j e (by omega), adT_o e (by omega) (by omega) (by omega)]
      exact h1 j hj
  · rw [adT_3, ho (4 + k) (by omega) (by omega), h2 k hk4]
    by_cases e : k = ρ 3
    · rw [e, if_neg (by omega), if_pos (by omega), adT_p hk]
    · by_cases e2 : k < ρ 3
      · rw [if_pos e2, if_pos (by omega), adT_o (by omega) (by omega) (by omega) (by omega)]
      · rw [if_neg e2, if_neg (by omega)]
  · rw [adT_3]
    intro k hk1
    by_cases e : k = ρ 3
    · rw [e, adT_n, adT_c, h8]
      refine ⟨rfl, fun i hi => ?_⟩
      rw [hl i hi, cdN_fig hi, letN_fx (hF i hi)]
    · have h5 := (hW.2.2.2.2.1 k (by omega)).2.2.1
      rw [adT_o (show 8 + k ≠ 3 by omega) (by omega) (by omega) (by omega), adT_o (show 12 + k ≠ 3 by omega) (by omega) (by omega) (by omega), ho (8 + 5 * k) (by omega) (by omega)]
      refine ⟨(h3' k (by omega)).1, fun i hi => ?_⟩
      rw [ho (8 + 5 * k + 1 + i) (by omega) (by omega)]
      exact (h3' k (by omega)).2 i hi
  · rw [ho (28 + j) (by omega) (by omega)]
    exact h4 j hj
theorem i_scheme {J : Mem} {L : Nat} {x : Nat → Nat} {ρ : Td} (hX : TXm J L x) (hW : WFr ρ) (hT : TMr (J 93) ρ) {a : Nat} (ha : a < L) (hk : x a = 107) (h6 : J 89 6 = nI (a + 1)) : ItO x L ρ a J (f_X9_schemeItem J) := by
  have h200 := hX.2.1
  have hS := hW.2.2.2.1
  have hit0 : ∀ e ρ', Item x L ρ a e ρ' → fOk x (a + 1) e ∧ ρ 3 < 4 ∧ e < L ∧ x e = 59 ∧ ρ' = adT ρ (e - (a + 1)) (cdN x (a + 1) (e - (a + 1))) := by
    intro e ρ' h
    rcases h.2.2.2 with ⟨i', j1, j2, -⟩ | ⟨j1, -⟩ | ⟨-, j1, j2, j3⟩
    · have := kyN_3 j1; omega
    · omega
    · exact ⟨j1, j2, h.2.1, h.2.2.1, j3⟩
  unfold f_X9_schemeItem
  rw [hT.1 3 (by decide)]
  by_cases h4 : ρ 3 < 4
  rotate_left 1
  · refine ItO.no (s := a + 1) (J' := J) ?_ (FR.refl J) h6 (by omega) (fun e ρ' h => h4 (hit0 e ρ' h).2.1)
    show l_X9_schemeItem_9 _ (4999 + 1) _ _ _ = _
    rw [u_X9_schemeItem_9]
    unfold b_X9_schemeItem_9
    rw [if_pos (show (4 : Int32) ≤ nI (ρ 3) from nI_le (a := 4) (by omega) (by omega))]
    exact if_pos rfl
  obtain ⟨n, J2, n1, n2, n3, n4, n5, n6, n7, n8⟩ := s_sch9l hX (fun (z8 : Int32) (z9 : Int32) I10 => j_X9_schemeItem_72 z8 z9 I10) (b := a + 1) (k := ρ 3) (by omega) h4 4 0 fuel J rfl (by rw [fuel_v]; decide) (FR.refl J) h6 (fun i hi => by omega) (fun i hi => by omega) (fun _ _ => rfl)
  have hX2 := n4.tx hX
  have hit : ∀ e ρ', Item x L ρ a e ρ' → 0 < n ∧ e = a + 1 + n ∧ (x (a + n) = 108 ∨ x (a + n) = 114) ∧ ρ' = adT ρ n (cdN x (a + 1) n) := by
    intro e ρ' h
    obtain ⟨c1, c2, c3, c4, c5⟩ := hit0 e ρ' h
    obtain ⟨f1, f2, f3, f4⟩ := c1
    have hn : n = e - (a + 1) := by
      rcases Nat.lt_trichotomy n (e - (a + 1)) with g | g | g
      · rcases n3 with q | q
        · omega
        · rw [bt_in (by omega)] at q
          exact absurd (f3 (a + 1 + n) (by omega) (by omega)) q
      · exact g
      · have := (n2 (e - (a + 1)) g).2
        rw [show a + 1 + (e - (a + 1)) = e by omega, c4] at this
        unfold isF at this
        omega
    rw [← hn] at c5
    rw [show e - 1 = a + n by omega] at f4
    exact ⟨by omega, by omega, f4, c5⟩
  have e0 : ∀ z, j_X9_schemeItem_72 (nI (ρ 3)) (nI n) J2 = z → l_X9_schemeItem_9 (fun (z8 : Int32) (z9 : Int32) I10 => j_X9_schemeItem_72 z8 z9 I10) fuel (nI (ρ 3)) 0 J = z := fun z hz => n8.trans hz
  have hnL : a + 1 + n ≤ L := by
    by_cases h0 : n = 0
    · omega
    · have := (n2 (n - 1) (by omega)).1
      omega
  by_cases h0 : n = 0
  · refine ItO.no (s := a + 1 + n) (e0 (some (0, J2)) ?_) n4 n5 (by omega) (fun e ρ' h => by have := (hit e ρ' h).1; omega)
    unfold j_X9_schemeItem_72
    rw [h0, if_pos (show nI 0 = 0 from rfl)]
  have hlast : bt x L (a + n) = x (a + n) := bt_in (by omega)
  have hbt := bt_lt hX2 (a + n)
  have hb : f_X9_byteAt ((J2 89 6) - (1 : Int32)) J2 = some (nI (x (a + n)), J2) := by
    rw [n5, show nI (a + 1 + n) - (1 : Int32) = nI (a + n) by rw [show nI (a + 1 + n) - (1 : Int32) = nI (a + 1 + n - 1) from nI_sub (b := 1) (by omega) (by omega)]; congr 1; omega, s_bt hX2 (by omega), hlast]
  rw [hlast] at hbt
  by_cases hs : x (a + n) = 108 ∨ x (a + n) = 114
  rotate_left 1
  · refine ItO.no (s := a + 1 + n) (e0 (some (0, J2)) ?_) n4 n5 (by omega) (fun e ρ' h => hs (hit e ρ' h).2.2.1)
    unfold j_X9_schemeItem_72
    rw [if_neg (nI_ne0 (by omega) (by omega)), hb, bI_some, (s_isSide9 hbt J2).2 hs, bI_some, if00]
  have h93 : (stm J2 93 (8 + 5 * ρ 3) (nI n)) 93 3 = nI (ρ 3) := by
    rw [stm_ne (by omega), n7 3 (by omega), hT.1 3 (by decide)]
  refine ⟨1, stm (stm J2 93 (8 + 5 * ρ 3) (nI n)) 93 3 (nI (ρ 3 + 1)), a + 1 + n, e0 _ ?_, n4.trans ((FR.s93 _ _ _).trans (FR.s93 _ _ _)), ?_, by omega, Or.inr rfl, fun e ρ' h => ?_, fun _ h59 => ?_⟩
  · unfold j_X9_schemeItem_72
    rw [if_neg (nI_ne0 (by omega) (by omega)), hb, bI_some, (s_isSide9 hbt J2).1 hs, bI_some, if10, show (5 : Int32) * nI (ρ 3) = nI (5 * ρ 3) from nI_mul 5 _, show (8 : Int32) + nI (5 * ρ 3) = nI (8 + 5 * ρ 3) from nI_add 8 _, ck_t (inb_n (show 8 + 5 * ρ 3 < 132 by omega) (by decide)), nI_tn (by omega), h93, nI_1]
  · rw [stm_row (by decide), stm_row (by decide)]; exact n5
  · obtain ⟨c1, c2, c3, c4⟩ := hit e ρ' h
    refine ⟨rfl, c2.symm, ?_⟩
    rw [c4]
    refine hT.add hW h4 n1 (fun i hi => (n2 i hi).2) (stm_at _ _ _ _) ?_ ?_ ?_
    · rw [stm_ne (by omega), stm_at]
    · intro i hi
      rw [stm_ne (by omega), stm_ne (by omega)]
      exact n6 i hi
    · intro j hj hj2
      rw [stm_ne hj, stm_ne (by omega)]
      exact n7 j (by omega)
  · obtain ⟨f1, f2⟩ := bt_of (x := x) (L := L) (i := a + 1 + n) (by omega)
    refine ⟨adT ρ n (cdN x (a + 1) n), by omega, f1, by rw [← f2]; exact h59, Or.inr (Or.inr ⟨hk, ⟨by omega, by omega, fun i i1 i2 => ?_, ?_⟩, h4, ?_⟩)⟩
    · have := (n2 (i - (a + 1)) (by omega)).2
      rwa [show a + 1 + (i - (a + 1)) = i by omega] at this
    · rw [show a + 1 + n - 1 = a + n by omega]; exact hs
    · rw [show a + 1 + n - (a + 1) = n by omega]
