theorem figT : ∀ n, n < 5 → ∀ i, i < n → ∀ c, c < 256 → ((nI c >>> (((2 : Int32) * ((nI n - 1) - nI i)) &&& 31)) &&& 3) = nI (fig n c i) := by decide +kernel
theorem lasT : ∀ c, c < 256 → (nI c &&& 3) = nI (c % 4) := by decide +kernel
theorem fig_lt (n c i : Nat) : fig n c i < 4 := Nat.mod_lt _ (by decide)
theorem nI4 {f : Nat} (h : f < 4) : nI f = 0 ∨ nI f = 1 ∨ nI f = 2 ∨ nI f = 3 := by
  match f, h with
  | 0, _ => exact Or.inl rfl
  | 1, _ => exact Or.inr (Or.inl rfl)
  | 2, _ => exact Or.inr (Or.inr (Or.inl rfl))
  | 3, _ => exact Or.inr (Or.inr (Or.inr rfl))
theorem s_figureAt {n c i : Nat} (hn : n < 5) (hi : i < n) (hc : c < 256) (I : Mem) : f_X5_figureAt (nI n) (nI c) (nI i) I = some (nI (fig n c i), I) := by
  unfold f_X5_figureAt
  rw [figT n hn i hi c hc]
theorem s_last {c : Nat} (hc : c < 256) (I : Mem) : f_X5_lastFigure (nI c) I = some (nI (c % 4), I) := by
  unfold f_X5_lastFigure
  rw [lasT c hc]
/-- an across fold -/
def acF (f : Nat) : Nat := if f = 1 ∨ f = 2 then 1 else 0
theorem s_across {f : Nat} (h : f < 4) (I : Mem) : f_X5_isAcross (nI f) I = some (nI (acF f), I) := by
  match f, h with
  | 0, _ => rfl
  | 1, _ => rfl
  | 2, _ => rfl
  | 3, _ => rfl
def itR (n c : Nat) : Nat → (Nat → Int32) → Nat → Int32
  | 0, w => w
  | i + 1, w => tkR (nI (fig n c i)) (itR n c i w)
def tpR (w : Nat → Int32) : Nat → Int32 := upd (upd w 5 (w 4 - 1 - w 5)) 6 (1 - w 6)
def flR (n c : Nat) (w : Nat → Int32) : Nat → Int32 := if c % 4 = 2 then tpR (itR n c n w) else itR n c n w
theorem s_turnPile (a : Nat) (I : Mem) : f_X3_turnPile a I = some (upR I a (tpR (I a))) := by
  unfold f_X3_turnPile tpR
  rw [stm_def, stm_def, upR_at, upR_up, upd_ne (by decide)]
theorem s_foldLeaf (a : Nat) {n c : Nat} (hn : n < 5) (hc : c < 256) (I : Mem) : f_X5_foldLeaf a (nI n) (nI c) I = some (upR I (a + 3) (flR n c (I (a + 3)))) := by
  unfold f_X5_foldLeaf
  have hS0 : I = upR I (a + 3) (itR n c 0 (I (a + 3))) := by
    funext i
    unfold upR itR
    by_cases h : i = a + 3
    · rw [if_pos h, h]
    · rw [if_neg h]
  have key := iter_loop (fun f x M => l_X5_foldLeaf_2 (fun (w4 : Nat) (z5 : Int32) I6 => bI (f_X5_lastFigure z5 I6) fun r8 I7 => (if r8 = (2 : Int32) then bV (f_X3_turnPile (w4 + 3) I7) fun I9 => some I9 else some I7)) f a (nI n) (nI c) x M) (some (upR I (a + 3) (flR n c (I (a + 3))))) 0 n (fun i => upR I (a + 3) (itR n c i (I (a + 3)))) (Nat.zero_le n) ?_ ?_ fuel (by rw [fuel_v]; omega)
  · rw [← hS0] at key
    exact key
  · intro f i _ hi
    show l_X5_foldLeaf_2 _ (f + 1) a (nI n) (nI c) (nI i) _ = l_X5_foldLeaf_2 _ f a (nI n) (nI c) (nI (i + 1)) _
    rw [u_X5_foldLeaf_2]
    unfold b_X5_foldLeaf_2
    rw [if_neg (nI_ge hi (by omega)), s_figureAt hn hi hc, bI_some, s_takeFold _ _ (nI4 (fig_lt n c i)), bV_some, nI_1, upR_at, upR_up]
    rfl
  · intro f
    show l_X5_foldLeaf_2 _ (f + 1) a (nI n) (nI c) (nI n) _ = _
    rw [u_X5_foldLeaf_2]
    unfold b_X5_foldLeaf_2
    rw [if_pos (nI_le (Nat.le_refl n) (by omega))]
    dsimp only
    rw [s_last hc, bI_some]
    unfold flR
    by_cases h2 : c % 4 = 2
    · rw [if_pos (show nI (c % 4) = (2 : Int32) by rw [h2]; rfl), if_pos h2, s_turnPile, bV_some, upR_at, upR_up]
    · rw [if_neg (show ¬ nI (c % 4) = (2 : Int32) from fun q => h2 ((nI_eq (a := c % 4) (b := 2) (by omega) (by decide)).mp q)), if_neg h2]
/-- two rows alike in the leaf's eight places -/
def E8 (w w' : Nat → Int32) : Prop := ∀ k, k < 8 → w k = w' k
theorem tkR_E8 {f : Int32} {w w' : Nat → Int32} (h : E8 w w') : E8 (tkR f w) (tkR f w') := by
  have h0 := h 0 (by decide)
  have h1 := h 1 (by decide)
  have h2 := h 2 (by decide)
  have h3 := h 3 (by decide)
  have h4 := h 4 (by decide)
  have h5 := h 5 (by decide)
  have h6 := h 6 (by decide)
  have h7 := h 7 (by decide)
  intro k hk
  match k, hk with
  | 0, _ => simp only [tkR, h0, h1, h2, h3, h4, h5, h6, h7]
  | 1, _ => simp only [tkR, h0, h1, h2, h3, h4, h5, h6, h7]
  | 2, _ => simp only [tkR, h0, h1, h2, h3, h4, h5, h6, h7]
  | 3, _ => simp only [tkR, h0, h1, h2, h3, h4, h5, h6, h7]
  | 4, _ => simp only [tkR, h0, h1, h2, h3, h4, h5, h6, h7]
  | 5, _ => simp only [tkR, h0, h1, h2, h3, h4, h5, h6, h7]
  | 6, _ => simp only [tkR, h0, h1, h2, h3, h4, h5, h6, h7]
  | 7, _ => simp only [tkR, h0, h1, h2, h3, h4, h5, h6, h7]
theorem itR_E8 {n c : Nat} {w w' : Nat → Int32} (h : E8 w w') : ∀ i, E8 (itR n c i w) (itR n c i w')
  | 0 => h
  | i + 1 => tkR_E8 (itR_E8 h i)
theorem tpR_E8 {w w' : Nat → Int32} (h : E8 w w') : E8 (tpR w) (tpR w') := by
  intro k hk
  unfold tpR upd
  rw [h 4 (by decide), h 5 (by decide), h 6 (by decide), h k hk]
theorem flR_E8 {n c : Nat} {w w' : Nat → Int32} (h : E8 w w') : E8 (flR n c w) (flR n c w') := by
  unfold flR
  by_cases h2 : c % 4 = 2
  · rw [if_pos h2, if_pos h2]; exact tpR_E8 (itR_E8 h n)
  · rw [if_neg h2, if_neg h2]; exact itR_E8 h n
def lieR (x1 x2 x3 x4 : Int32) (w : Nat → Int32) : Nat → Int32 := upd (upd (upd (upd (upd (upd (upd (upd w 0 x1) 1 x2) 2 x3) 3 x4) 4 1) 5 0) 6 0) 7 0
theorem lieR_E8 (x1 x2 x3 x4 : Int32) (w w' : Nat → Int32) : E8 (lieR x1 x2 x3 x4 w) (lieR x1 x2 x3 x4 w') := by
  intro k hk
  match k, hk with
  | 0, _ => rfl
  | 1, _ => rfl
  | 2, _ => rfl
  | 3, _ => rfl
  | 4, _ => rfl
  | 5, _ => rfl
  | 6, _ => rfl
  | 7, _ => rfl
theorem s_lieAt (a : Nat) (x1 x2 x3 x4 : Int32) (I : Mem) : f_X3_lieAt a x1 x2 x3 x4 I = some (upR I a (lieR x1 x2 x3 x4 (I a))) := by
  unfold f_X3_lieAt lieR
  simp only [stm_def, upR_at, upR_up]
/-- how many of the first i folds go across -/
def acU (n c : Nat) : Nat → Nat
  | 0 => 0
  | i + 1 => acU n c i + acF (fig n c i)
theorem acF_le (f : Nat) : acF f ≤ 1 := by unfold acF; by_cases h : f = 1 ∨ f = 2 <;> simp [h]
theorem acU_le (n c : Nat) : ∀ i, acU n c i ≤ i
  | 0 => Nat.le_refl 0
  | i + 1 => by
    have := acU_le n c i
    have := acF_le (fig n c i)
    show acU n c i + acF (fig n c i) ≤ i + 1
    omega
def frW (w : Nat → Int32) : Int32 := (2 * ((w 4 - 1) - w 5)) + 1 + w 6
/-- the row of the leaf of a cell at its end -/
def lfR (n c j : Nat) : Nat → Int32 := flR n c (lieR (nI j &&& (nI (2 ^ acU n c n) - 1)) (nI j >>> (nI (acU n c n) &&& 31)) (nI (2 ^ acU n c n)) (nI (2 ^ (n - acU n c n))) (fun _ => 0))
def frI (n c j : Nat) : Int32 := frW (lfR n c j)
def ovI (n c j : Nat) : Int32 := lfR n c j 7
/-- a sheet as it is folded -/
def SH (I : Mem) (a n c : Nat) : Prop := I a 0 = nI (2 ^ acU n c n) ∧ I a 1 = nI (2 ^ (n - acU n c n)) ∧ I a 2 = nI (acU n c n) ∧ ∀ j, j < 2 ^ n → I (a + 1) j = frI n c j ∧ I (a + 2) j = ovI n c j
theorem SH.rows {I I' : Mem} {a n c : Nat} (h : SH I a n c) (e : ∀ i, a ≤ i → i < a + 3 → I' i = I i) : SH I' a n c := by
  unfold SH
  rw [e a (by omega) (by omega), e (a + 1) (by omega) (by omega), e (a + 2) (by omega) (by omega)]
  exact h
theorem s_frontPage (a : Nat) (I : Mem) : f_X3_frontPage a I = some (frW (I a), I) := rfl
theorem pow4 {n : Nat} (h : n < 5) : 2 ^ n ≤ 16 := by
  match n, h with
  | 0, _ => decide
  | 1, _ => decide
  | 2, _ => decide
  | 3, _ => decide
  | 4, _ => decide
theorem shl1 : ∀ k, k < 5 → ((1 : Int32) <<< (nI k &&& 31)) = nI (2 ^ k) := by decide +kernel
/-- the memory when j cells are done -/
def mB (a n c : Nat) (M : Mem) : Nat → Mem
  | 0 => M
  | j + 1 =>
    let P := mB a n c M j
    let w := flR n c (lieR (nI j &&& (P a 0 - 1)) (nI j >>> (P a 2 &&& 31)) (P a 0) (P a 1) (P (a + 3)))
    stm (stm (upR P (a + 3) w) (a + 1) j (frW w)) (a + 2) j (w 7)
theorem mB_row {a n c : Nat} {M : Mem} {i : Nat} (h1 : i ≠ a + 1) (h2 : i ≠ a + 2) (h3 : i ≠ a + 3) : ∀ j, mB a n c M j i = M i
  | 0 => rfl
  | j + 1 => by
    show stm (stm (upR (mB a n c M j) (a + 3) _) (a + 1) j _) (a + 2) j _ i = M i
    rw [stm_row h2, stm_row h1, upR_ne h3]
    exact mB_row h1 h2 h3 j
theorem mB_SH {a n c : Nat} {M : Mem} (h0 : M a 0 = nI (2 ^ acU n c n)) (h1 : M a 1 = nI (2 ^ (n - acU n c n))) (h2 : M a 2 = nI (acU n c n)) : ∀ j i, i < j → mB a n c M j (a + 1) i = frI n c i ∧ mB a n c M j (a + 2) i = ovI n c i
  | 0, i, h => absurd h (Nat.not_lt_zero i)
  | j + 1, i, h => by
    have er : mB a n c M j a = M a := mB_row (by omega) (by omega) (by omega) j
    show stm (stm (upR (mB a n c M j) (a + 3) _) (a + 1) j _) (a + 2) j _ (a + 1) i = _ ∧ stm (stm (upR (mB a n c M j) (a + 3) _) (a + 1) j _) (a + 2) j _ (a + 2) i = _
    rw [er, h0, h1, h2, stm_row (show a + 1 ≠ a + 2 by omega)]
    by_cases hij : i = j
    · subst hij
      rw [stm_at, stm_at]
      have hE : E8 (flR n c (lieR (nI i &&& (nI (2 ^ acU n c n) - 1)) (nI i >>> (nI (acU n c n) &&& 31)) (nI (2 ^ acU n c n)) (nI (2 ^ (n - acU n c n))) (mB a n c M i (a + 3)))) (lfR n c i) := flR_E8 (lieR_E8 _ _ _ _ _ _)
      unfold frI ovI frW
      rw [hE 4 (by decide), hE 5 (by decide), hE 6 (by decide), hE 7 (by decide)]
      exact ⟨rfl, rfl⟩
    · rw [stm_ne hij, stm_ne hij, upR_ne (show a + 1 ≠ a + 3 by omega), stm_row (show a + 2 ≠ a + 1 by omega), upR_ne (show a + 2 ≠ a + 3 by omega)]
      exact mB_SH h0 h1 h2 j i (by omega)
theorem s_leaves {I : Mem} {a A n : Nat} (hn : n < 5) (hA : A ≤ n) (h0 : I a 0 = nI (2 ^ A)) (h1 : I a 1 = nI (2 ^ (n - A))) : f_X5_leaves a I = some (nI (2 ^ n), I) := by
  unfold f_X5_leaves
  have hp : 2 ^ A * 2 ^ (n - A) = 2 ^ n := by rw [← Nat.pow_add]; congr 1; omega
  have := pow4 hn
  rw [h0, h1, nI_mul, hp, if_neg (show ¬ (16 : Int32) < nI (2 ^ n) from nI_nlt this (by decide))]
theorem s_foldBy (a : Nat) {n c : Nat} (hn : n < 5) (hc : c < 256) (I : Mem) : ∃ I', f_X5_foldBy a (nI n) (nI c) I = some I' ∧ SH I' a n c ∧ ∀ i, i < a ∨ a + 4 ≤ i → I' i = I i := by
  have hA := acU_le n c n
  have hp := pow4 hn
  generalize hM1 : stm (stm (stm I a 2 (nI (acU n c n))) a 0 (nI (2 ^ acU n c n))) a 1 (nI (2 ^ (n - acU n c n))) = M1
  have e0 : M1 a 0 = nI (2 ^ acU n c n) := by rw [← hM1, stm_ne (by decide), stm_at]
  have e1 : M1 a 1 = nI (2 ^ (n - acU n c n)) := by rw [← hM1, stm_at]
  have e2 : M1 a 2 = nI (acU n c n) := by rw [← hM1, stm_ne (by decide), stm_ne (by decide), stm_at]
  have er : ∀ i, i ≠ a → M1 i = I i := fun i h => by rw [← hM1, stm_row h, stm_row h, stm_row h]
  refine ⟨mB a n c M1 (2 ^ n), ?_, ⟨?_, ?_, ?_, fun j hj => mB_SH e0 e1 e2 _ j hj⟩, fun i hi => ?_⟩
  · unfold f_X5_foldBy
    have second : l_X5_foldBy_64 (fun I21 => some I21) fuel a (nI n) (nI c) (nI 0) (mB a n c M1 0) = some (mB a n c M1 (2 ^ n)) := by
      refine iter_loop (fun f x M => l_X5_foldBy_64 (fun I21 => some I21) f a (nI n) (nI c) x M) (some (mB a n c M1 (2 ^ n))) 0 (2 ^ n) (mB a n c M1) (Nat.zero_le _) ?_ ?_ fuel (by rw [fuel_v]; omega)
      · intro f i _ hi
        have q : mB a n c M1 i a = M1 a := mB_row (by omega) (by omega) (by omega) i
        show l_X5_foldBy_64 _ (f + 1) a (nI n) (nI c) (nI i) _ = l_X5_foldBy_64 _ f a (nI n) (nI c) (nI (i + 1)) _
        rw [u_X5_foldBy_64]
        unfold b_X5_foldBy_64
        rw [s_leaves hn hA (by rw [q]; exact e0) (by rw [q]; exact e1), bI_some, if_neg (nI_ge hi (by omega))]
        unfold f_X5_columnAt f_X5_rowAt
        rw [bI_some, bI_some, s_lieAt, bV_some, s_foldLeaf a hn hc, bV_some, s_frontPage, bI_some, ck_t (inb_n (by omega) (by decide)), ck_t (inb_n (by omega) (by decide)), nI_tn (by omega), nI_1, upR_at, upR_at, upR_up, stm_row (show a + 3 ≠ a + 1 by omega), upR_at]
        rfl
      · intro f
        have q : mB a n c M1 (2 ^ n) a = M1 a := mB_row (by omega) (by omega) (by omega) _
        show l_X5_foldBy_64 _ (f + 1) a (nI n) (nI c) (nI (2 ^ n)) _ = _
        rw [u_X5_foldBy_64]
        unfold b_X5_foldBy_64
        rw [s_leaves hn hA (by rw [q]; exact e0) (by rw [q]; exact e1), bI_some, if_pos (nI_le (Nat.le_refl _) (by omega))]
    refine iter_loop (fun f x M => l_X5_foldBy_7 _ f a (nI n) (nI c) x M) (some (mB a n c M1 (2 ^ n))) 0 n (fun i => stm I a 2 (nI (acU n c i))) (Nat.zero_le _) ?_ ?_ fuel (by rw [fuel_v]; omega)
    · intro f i _ hi
      show l_X5_foldBy_7 _ (f + 1) a (nI n) (nI c) (nI i) _ = l_X5_foldBy_7 _ f a (nI n) (nI c) (nI (i + 1)) _
      rw [u_X5_foldBy_7]
      unfold b_X5_foldBy_7
      rw [if_neg (nI_ge hi (by omega)), s_figureAt hn hi hc, bI_some, s_across (fig_lt n c i), bI_some, nI_1]
      show _ = l_X5_foldBy_7 _ f a (nI n) (nI c) (nI (i + 1)) (stm I a 2 (nI (acU n c i + acF (fig n c i))))
      by_cases hz : acF (fig n c i) = 0
      · rw [hz, if_pos (show nI 0 = (0 : Int32) from rfl)]
        rfl
      · have h1 : acF (fig n c i) = 1 := by have := acF_le (fig n c i); omega
        rw [h1, if_neg (by decide), stm_at, nI_1]
        congr 1
        rw [stm_def, stm_def I, stm_def I, upR_at, upR_up]
        congr 1
        funext k
        unfold upd
        by_cases hk : k = 2
        · rw [if_pos hk, if_pos hk]
        · rw [if_neg hk, if_neg hk, if_neg hk]
    · intro f
      show l_X5_foldBy_7 _ (f + 1) a (nI n) (nI c) (nI n) _ = _
      rw [u_X5_foldBy_7]
      unfold b_X5_foldBy_7
      rw [if_pos (nI_le (Nat.le_refl n) (by omega))]
      dsimp only
      rw [stm_at, shl1 _ (by omega), stm_ne (by decide), stm_at, nI_sub hA (by omega), shl1 _ (by omega), hM1]
      exact second
  · rw [mB_row (by omega) (by omega) (by omega)]; exact e0
  · rw [mB_row (by omega) (by omega) (by omega)]; exact e1
  · rw [mB_row (by omega) (by omega) (by omega)]; exact e2
  · rw [mB_row (by omega) (by omega) (by omega)]; exact er i (by omega)
