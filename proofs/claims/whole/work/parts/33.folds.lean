/-! FOLDS: the class's way, a leaf at a time -/
/-- what one fold does to a leaf's row -/
def tkR (f : Int32) (w : Nat → Int32) : Nat → Int32 :=
  let ac : Bool := f == 1 || f == 2
  let lo : Bool := f == 1 || f == 3
  let at0 : Int32 := if ac = true then w 0 else w 1
  let hf : Int32 := (if ac = true then w 2 else w 3) / 2
  let tu : Bool := lo == decide (¬ hf ≤ at0)
  let at1 : Int32 := if tu = true then 2 * hf - 1 - at0 else at0
  let ps : Int32 := if lo = true then at1 - hf else at1
  fun k => match k with
    | 0 => if ac = true then ps else w 0
    | 1 => if ac = true then w 1 else ps
    | 2 => if ac = true then hf else w 2
    | 3 => if ac = true then w 3 else hf
    | 4 => w 4 * 2
    | 5 => if tu = true then 2 * w 4 - 1 - w 5 else w 5
    | 6 => if tu = true then 1 - w 6 else w 6
    | 7 => if tu = true then (if ac = true then w 7 else 1 - w 7) else w 7
    | n => w n
theorem i00 : ((0 : Int32) = 0) = True := eq_true rfl
theorem i01 : ((0 : Int32) = 1) = False := eq_false (by decide)
theorem i02 : ((0 : Int32) = 2) = False := eq_false (by decide)
theorem i03 : ((0 : Int32) = 3) = False := eq_false (by decide)
theorem i10 : ((1 : Int32) = 0) = False := eq_false (by decide)
theorem i11 : ((1 : Int32) = 1) = True := eq_true rfl
theorem i12 : ((1 : Int32) = 2) = False := eq_false (by decide)
theorem i13 : ((1 : Int32) = 3) = False := eq_false (by decide)
theorem i20 : ((2 : Int32) = 0) = False := eq_false (by decide)
theorem i21 : ((2 : Int32) = 1) = False := eq_false (by decide)
theorem i22 : ((2 : Int32) = 2) = True := eq_true rfl
theorem i23 : ((2 : Int32) = 3) = False := eq_false (by decide)
theorem i30 : ((3 : Int32) = 0) = False := eq_false (by decide)
theorem i31 : ((3 : Int32) = 1) = False := eq_false (by decide)
theorem i32 : ((3 : Int32) = 2) = False := eq_false (by decide)
theorem i33 : ((3 : Int32) = 3) = True := eq_true rfl
theorem stm_def (I : Mem) (a k : Nat) (x : Int32) : stm I a k x = upR I a (upd (I a) k x) := rfl
theorem upd_at (w : Nat → Int32) (k : Nat) (x : Int32) : upd w k x k = x := if_pos rfl
theorem upd_ne {w : Nat → Int32} {k j : Nat} {x : Int32} (h : j ≠ k) : upd w k x j = w j := if_neg h
theorem rows8 {v w : Nat → Int32} (h0 : v 0 = w 0) (h1 : v 1 = w 1) (h2 : v 2 = w 2) (h3 : v 3 = w 3) (h4 : v 4 = w 4) (h5 : v 5 = w 5) (h6 : v 6 = w 6) (h7 : v 7 = w 7) (h : ∀ n, v (n + 8) = w (n + 8)) : v = w := by
  funext k
  match k with
  | 0 => exact h0
  | 1 => exact h1
  | 2 => exact h2
  | 3 => exact h3
  | 4 => exact h4
  | 5 => exact h5
  | 6 => exact h6
  | 7 => exact h7
  | n + 8 => exact h n
theorem s_takeFold (a : Nat) (f : Int32) (hf : f = 0 ∨ f = 1 ∨ f = 2 ∨ f = 3) (I : Mem) : f_X3_takeFold a f I = some (upR I a (tkR f (I a))) := by
  unfold f_X3_takeFold f_X5_isAcross j_X3_takeFold_36 j_X3_takeFold_70 j_X3_takeFold_132 f_X3_stayAt
  rcases hf with rfl | rfl | rfl | rfl
  · by_cases h : I a 3 / 2 ≤ I a 1
    · simp only [bI_some, bV_some, stm_def, upR_at, upR_up, h, reduceIte, i00, i01, i02, i03, i10, i11, i12, i13, i20, i21, i22, i23, i30, i31, i32, i33]
      congr 2
      apply rows8 <;> simp [upd, tkR, h]
    · simp only [bI_some, bV_some, stm_def, upR_at, upR_up, h, reduceIte, i00, i01, i02, i03, i10, i11, i12, i13, i20, i21, i22, i23, i30, i31, i32, i33]
      congr 2
      apply rows8 <;> simp [upd, tkR, h]
  · by_cases h : I a 2 / 2 ≤ I a 0
    · simp only [bI_some, bV_some, stm_def, upR_at, upR_up, h, reduceIte, i00, i01, i02, i03, i10, i11, i12, i13, i20, i21, i22, i23, i30, i31, i32, i33]
      congr 2
      apply rows8 <;> simp [upd, tkR, h]
    · simp only [bI_some, bV_some, stm_def, upR_at, upR_up, h, reduceIte, i00, i01, i02, i03, i10, i11, i12, i13, i20, i21, i22, i23, i30, i31, i32, i33]
      congr 2
      apply rows8 <;> simp [upd, tkR, h]
  · by_cases h : I a 2 / 2 ≤ I a 0
    · simp only [bI_some, bV_some, stm_def, upR_at, upR_up, h, reduceIte, i00, i01, i02, i03, i10, i11, i12, i13, i20, i21, i22, i23, i30, i31, i32, i33]
      congr 2
      apply rows8 <;> simp [upd, tkR, h]
    · simp only [bI_some, bV_some, stm_def, upR_at, upR_up, h, reduceIte, i00, i01, i02, i03, i10, i11, i12, i13, i20, i21, i22, i23, i30, i31, i32, i33]
      congr 2
      apply rows8 <;> simp [upd, tkR, h]
  · by_cases h : I a 3 / 2 ≤ I a 1
    · simp only [bI_some, bV_some, stm_def, upR_at, upR_up, h, reduceIte, i00, i01, i02, i03, i10, i11, i12, i13, i20, i21, i22, i23, i30, i31, i32, i33]
      congr 2
      apply rows8 <;> simp [upd, tkR, h]
    · simp only [bI_some, bV_some, stm_def, upR_at, upR_up, h, reduceIte, i00, i01, i02, i03, i10, i11, i12, i13, i20, i21, i22, i23, i30, i31, i32, i33]
      congr 2
      apply rows8 <;> simp [upd, tkR, h]
