/-! TOLD: what is told, as an abstract value; the class's rows, the reference's row -/
/-- 0 N, 1 THICK, 2 the mode, 3 how many schemes, 4 + k price, 8 + k how many folds, 12 + k the folds' code, 16 + j spoiled -/
abbrev Td : Type := Nat → Nat
def fig (n c i : Nat) : Nat := c / 4 ^ (n - 1 - i) % 4
def letN (f : Nat) : Nat := [98, 108, 114, 116].getD f 0
def vld (n c : Nat) : Prop := 1 ≤ n ∧ n ≤ 4 ∧ c < 4 ^ n ∧ (c % 4 = 1 ∨ c % 4 = 2)
def TX (I : Mem) (t : Nat) (τ : Td) : Prop := I t 0 = nI (τ 3) ∧ (∀ i, i < 3 → I (t + 1) i = nI (τ i)) ∧ (∀ k, k < τ 3 → I (t + 2) k = nI (τ (8 + k)) ∧ I (t + 3) k = nI (τ (12 + k)) ∧ I (t + 4) k = nI (τ (4 + k))) ∧ ∀ j, j < 100 → I (t + 5) j = nI (τ (16 + j))
def TM (g : Nat → Int32) (τ : Td) : Prop := (∀ i, i < 4 → g i = nI (τ i)) ∧ (∀ k, k < τ 3 → g (4 + k) = nI (τ (4 + k)) ∧ g (8 + 5 * k) = nI (τ (8 + k)) ∧ ∀ i, i < τ (8 + k) → g (8 + 5 * k + 1 + i) = nI (letN (fig (τ (8 + k)) (τ (12 + k)) i))) ∧ (∀ j, j < 100 → g (28 + j) = nI (τ (16 + j))) ∧ ∀ j, j < 4 → g (128 + j) = 0
def WF (τ : Td) : Prop := (1 ≤ τ 0 ∧ τ 0 ≤ 400) ∧ τ 1 ≤ 20 ∧ τ 2 ≤ 1 ∧ (1 ≤ τ 3 ∧ τ 3 ≤ 4) ∧ (∀ k, k < τ 3 → τ (4 + k) ≤ 99 ∧ vld (τ (8 + k)) (τ (12 + k))) ∧ ∀ j, j < 100 → τ (16 + j) ≤ 1
theorem TX.rows {I I' : Mem} {t : Nat} {τ : Td} (h : TX I t τ) (e : ∀ i, t ≤ i → i < t + 6 → I' i = I i) : TX I' t τ := by
  unfold TX
  rw [e t (by omega) (by omega), e (t + 1) (by omega) (by omega), e (t + 2) (by omega) (by omega), e (t + 3) (by omega) (by omega), e (t + 4) (by omega) (by omega), e (t + 5) (by omega) (by omega)]
  exact h
theorem s_copyRow_10_4 (I : Mem) : f_X7_copyRow_10_4 I = some (fil I 4 (I 10) 3) := by
  unfold f_X7_copyRow_10_4
  refine fill_loop (l_X7_copyRow_10_4_2 _) (fun I => some I) 4 3 (I 10) I ?_ ?_ fuel (by rw [fuel_v]; decide)
  · intro f i hi
    show l_X7_copyRow_10_4_2 _ (f + 1) (nI i) _ = _
    rw [u_X7_copyRow_10_4_2]
    unfold b_X7_copyRow_10_4_2
    rw [if_neg (show ¬ (3 : Int32) ≤ nI i from nI_ge hi (by decide)), if_neg (show ¬ (3 : Int32) ≤ nI i from nI_ge hi (by decide)), ck_t (inb_n hi (by decide)), ck_t (inb_n hi (by decide)), nI_tn (by omega), nI_1, fil_row (by decide)]
  · intro f
    show l_X7_copyRow_10_4_2 _ (f + 1) (nI 3) _ = _
    rw [u_X7_copyRow_10_4_2]
    unfold b_X7_copyRow_10_4_2
    rw [if_pos (by decide)]
theorem s_copyRow_11_5 (I : Mem) : f_X7_copyRow_11_5 I = some (fil I 5 (I 11) 4) := by
  unfold f_X7_copyRow_11_5
  refine fill_loop (l_X7_copyRow_11_5_2 _) (fun I => some I) 5 4 (I 11) I ?_ ?_ fuel (by rw [fuel_v]; decide)
  · intro f i hi
    show l_X7_copyRow_11_5_2 _ (f + 1) (nI i) _ = _
    rw [u_X7_copyRow_11_5_2]
    unfold b_X7_copyRow_11_5_2
    rw [if_neg (show ¬ (4 : Int32) ≤ nI i from nI_ge hi (by decide)), if_neg (show ¬ (4 : Int32) ≤ nI i from nI_ge hi (by decide)), ck_t (inb_n hi (by decide)), ck_t (inb_n hi (by decide)), nI_tn (by omega), nI_1, fil_row (by decide)]
  · intro f
    show l_X7_copyRow_11_5_2 _ (f + 1) (nI 4) _ = _
    rw [u_X7_copyRow_11_5_2]
    unfold b_X7_copyRow_11_5_2
    rw [if_pos (by decide)]
theorem s_copyRow_12_6 (I : Mem) : f_X7_copyRow_12_6 I = some (fil I 6 (I 12) 4) := by
  unfold f_X7_copyRow_12_6
  refine fill_loop (l_X7_copyRow_12_6_2 _) (fun I => some I) 6 4 (I 12) I ?_ ?_ fuel (by rw [fuel_v]; decide)
  · intro f i hi
    show l_X7_copyRow_12_6_2 _ (f + 1) (nI i) _ = _
    rw [u_X7_copyRow_12_6_2]
    unfold b_X7_copyRow_12_6_2
    rw [if_neg (show ¬ (4 : Int32) ≤ nI i from nI_ge hi (by decide)), if_neg (show ¬ (4 : Int32) ≤ nI i from nI_ge hi (by decide)), ck_t (inb_n hi (by decide)), ck_t (inb_n hi (by decide)), nI_tn (by omega), nI_1, fil_row (by decide)]
  · intro f
    show l_X7_copyRow_12_6_2 _ (f + 1) (nI 4) _ = _
    rw [u_X7_copyRow_12_6_2]
    unfold b_X7_copyRow_12_6_2
    rw [if_pos (by decide)]
theorem s_copyRow_13_7 (I : Mem) : f_X7_copyRow_13_7 I = some (fil I 7 (I 13) 4) := by
  unfold f_X7_copyRow_13_7
  refine fill_loop (l_X7_copyRow_13_7_2 _) (fun I => some I) 7 4 (I 13) I ?_ ?_ fuel (by rw [fuel_v]; decide)
  · intro f i hi
    show l_X7_copyRow_13_7_2 _ (f + 1) (nI i) _ = _
    rw [u_X7_copyRow_13_7_2]
    unfold b_X7_copyRow_13_7_2
    rw [if_neg (show ¬ (4 : Int32) ≤ nI i from nI_ge hi (by decide)), if_neg (show ¬ (4 : Int32) ≤ nI i from nI_ge hi (by decide)), ck_t (inb_n hi (by decide)), ck_t (inb_n hi (by decide)), nI_tn (by omega), nI_1, fil_row (by decide)]
  · intro f
    show l_X7_copyRow_13_7_2 _ (f + 1) (nI 4) _ = _
    rw [u_X7_copyRow_13_7_2]
    unfold b_X7_copyRow_13_7_2
    rw [if_pos (by decide)]
theorem s_copyRow_14_8 (I : Mem) : f_X7_copyRow_14_8 I = some (fil I 8 (I 14) 100) := by
  unfold f_X7_copyRow_14_8
  refine fill_loop (l_X7_copyRow_14_8_2 _) (fun I => some I) 8 100 (I 14) I ?_ ?_ fuel (by rw [fuel_v]; decide)
  · intro f i hi
    show l_X7_copyRow_14_8_2 _ (f + 1) (nI i) _ = _
    rw [u_X7_copyRow_14_8_2]
    unfold b_X7_copyRow_14_8_2
    rw [if_neg (show ¬ (100 : Int32) ≤ nI i from nI_ge hi (by decide)), if_neg (show ¬ (100 : Int32) ≤ nI i from nI_ge hi (by decide)), ck_t (inb_n hi (by decide)), ck_t (inb_n hi (by decide)), nI_tn (by omega), nI_1, fil_row (by decide)]
  · intro f
    show l_X7_copyRow_14_8_2 _ (f + 1) (nI 100) _ = _
    rw [u_X7_copyRow_14_8_2]
    unfold b_X7_copyRow_14_8_2
    rw [if_pos (by decide)]
theorem s_copyRow_4_v11 {a : Nat} (ha : a ≠ 4) (I : Mem) : f_X7_copyRow_4_v11 a I = some (fil I a (I 4) 3) := by
  unfold f_X7_copyRow_4_v11
  refine fill_loop (fun f x I => l_X7_copyRow_4_v11_2 _ f a x I) (fun I => some I) a 3 (I 4) I ?_ ?_ fuel (by rw [fuel_v]; decide)
  · intro f i hi
    show l_X7_copyRow_4_v11_2 _ (f + 1) a (nI i) _ = _
    rw [u_X7_copyRow_4_v11_2]
    unfold b_X7_copyRow_4_v11_2
    rw [if_neg (show ¬ (3 : Int32) ≤ nI i from nI_ge hi (by decide)), if_neg (show ¬ (3 : Int32) ≤ nI i from nI_ge hi (by decide)), ck_t (inb_n hi (by decide)), ck_t (inb_n hi (by decide)), nI_tn (by omega), nI_1, fil_row (Ne.symm ha)]
  · intro f
    show l_X7_copyRow_4_v11_2 _ (f + 1) a (nI 3) _ = _
    rw [u_X7_copyRow_4_v11_2]
    unfold b_X7_copyRow_4_v11_2
    rw [if_pos (by decide)]
theorem s_copyRow_5_v12 {a : Nat} (ha : a ≠ 5) (I : Mem) : f_X7_copyRow_5_v12 a I = some (fil I a (I 5) 4) := by
  unfold f_X7_copyRow_5_v12
  refine fill_loop (fun f x I => l_X7_copyRow_5_v12_2 _ f a x I) (fun I => some I) a 4 (I 5) I ?_ ?_ fuel (by rw [fuel_v]; decide)
  · intro f i hi
    show l_X7_copyRow_5_v12_2 _ (f + 1) a (nI i) _ = _
    rw [u_X7_copyRow_5_v12_2]
    unfold b_X7_copyRow_5_v12_2
    rw [if_neg (show ¬ (4 : Int32) ≤ nI i from nI_ge hi (by decide)), if_neg (show ¬ (4 : Int32) ≤ nI i from nI_ge hi (by decide)), ck_t (inb_n hi (by decide)), ck_t (inb_n hi (by decide)), nI_tn (by omega), nI_1, fil_row (Ne.symm ha)]
  · intro f
    show l_X7_copyRow_5_v12_2 _ (f + 1) a (nI 4) _ = _
    rw [u_X7_copyRow_5_v12_2]
    unfold b_X7_copyRow_5_v12_2
    rw [if_pos (by decide)]
theorem s_copyRow_6_v13 {a : Nat} (ha : a ≠ 6) (I : Mem) : f_X7_copyRow_6_v13 a I = some (fil I a (I 6) 4) := by
  unfold f_X7_copyRow_6_v13
  refine fill_loop (fun f x I => l_X7_copyRow_6_v13_2 _ f a x I) (fun I => some I) a 4 (I 6) I ?_ ?_ fuel (by rw [fuel_v]; decide)
  · intro f i hi
    show l_X7_copyRow_6_v13_2 _ (f + 1) a (nI i) _ = _
    rw [u_X7_copyRow_6_v13_2]
    unfold b_X7_copyRow_6_v13_2
    rw [if_neg (show ¬ (4 : Int32) ≤ nI i from nI_ge hi (by decide)), if_neg (show ¬ (4 : Int32) ≤ nI i from nI_ge hi (by decide)), ck_t (inb_n hi (by decide)), ck_t (inb_n hi (by decide)), nI_tn (by omega), nI_1, fil_row (Ne.symm ha)]
  · intro f
    show l_X7_copyRow_6_v13_2 _ (f + 1) a (nI 4) _ = _
    rw [u_X7_copyRow_6_v13_2]
    unfold b_X7_copyRow_6_v13_2
    rw [if_pos (by decide)]
theorem s_copyRow_7_v14 {a : Nat} (ha : a ≠ 7) (I : Mem) : f_X7_copyRow_7_v14 a I = some (fil I a (I 7) 4) := by
  unfold f_X7_copyRow_7_v14
  refine fill_loop (fun f x I => l_X7_copyRow_7_v14_2 _ f a x I) (fun I => some I) a 4 (I 7) I ?_ ?_ fuel (by rw [fuel_v]; decide)
  · intro f i hi
    show l_X7_copyRow_7_v14_2 _ (f + 1) a (nI i) _ = _
    rw [u_X7_copyRow_7_v14_2]
    unfold b_X7_copyRow_7_v14_2
    rw [if_neg (show ¬ (4 : Int32) ≤ nI i from nI_ge hi (by decide)), if_neg (show ¬ (4 : Int32) ≤ nI i from nI_ge hi (by decide)), ck_t (inb_n hi (by decide)), ck_t (inb_n hi (by decide)), nI_tn (by omega), nI_1, fil_row (Ne.symm ha)]
  · intro f
    show l_X7_copyRow_7_v14_2 _ (f + 1) a (nI 4) _ = _
    rw [u_X7_copyRow_7_v14_2]
    unfold b_X7_copyRow_7_v14_2
    rw [if_pos (by decide)]
theorem s_copyRow_8_v15 {a : Nat} (ha : a ≠ 8) (I : Mem) : f_X7_copyRow_8_v15 a I = some (fil I a (I 8) 100) := by
  unfold f_X7_copyRow_8_v15
  refine fill_loop (fun f x I => l_X7_copyRow_8_v15_2 _ f a x I) (fun I => some I) a 100 (I 8) I ?_ ?_ fuel (by rw [fuel_v]; decide)
  · intro f i hi
    show l_X7_copyRow_8_v15_2 _ (f + 1) a (nI i) _ = _
    rw [u_X7_copyRow_8_v15_2]
    unfold b_X7_copyRow_8_v15_2
    rw [if_neg (show ¬ (100 : Int32) ≤ nI i from nI_ge hi (by decide)), if_neg (show ¬ (100 : Int32) ≤ nI i from nI_ge hi (by decide)), ck_t (inb_n hi (by decide)), ck_t (inb_n hi (by decide)), nI_tn (by omega), nI_1, fil_row (Ne.symm ha)]
  · intro f
    show l_X7_copyRow_8_v15_2 _ (f + 1) a (nI 100) _ = _
    rw [u_X7_copyRow_8_v15_2]
    unfold b_X7_copyRow_8_v15_2
    rw [if_pos (by decide)]
theorem s_copyRow_v11_4 {a : Nat} (ha : a ≠ 4) (I : Mem) : f_X7_copyRow_v11_4 a I = some (fil I 4 (I a) 3) := by
  unfold f_X7_copyRow_v11_4
  refine fill_loop (fun f x I => l_X7_copyRow_v11_4_2 _ f a x I) (fun I => some I) 4 3 (I a) I ?_ ?_ fuel (by rw [fuel_v]; decide)
  · intro f i hi
    show l_X7_copyRow_v11_4_2 _ (f + 1) a (nI i) _ = _
    rw [u_X7_copyRow_v11_4_2]
    unfold b_X7_copyRow_v11_4_2
    rw [if_neg (show ¬ (3 : Int32) ≤ nI i from nI_ge hi (by decide)), if_neg (show ¬ (3 : Int32) ≤ nI i from nI_ge hi (by decide)), ck_t (inb_n hi (by decide)), ck_t (inb_n hi (by decide)), nI_tn (by omega), nI_1, fil_row ha]
  · intro f
    show l_X7_copyRow_v11_4_2 _ (f + 1) a (nI 3) _ = _
    rw [u_X7_copyRow_v11_4_2]
    unfold b_X7_copyRow_v11_4_2
    rw [if_pos (by decide)]
theorem s_copyRow_v12_5 {a : Nat} (ha : a ≠ 5) (I : Mem) : f_X7_copyRow_v12_5 a I = some (fil I 5 (I a) 4) := by
  unfold f_X7_copyRow_v12_5
  refine fill_loop (fun f x I => l_X7_copyRow_v12_5_2 _ f a x I) (fun I => some I) 5 4 (I a) I ?_ ?_ fuel (by rw [fuel_v]; decide)
  · intro f i hi
    show l_X7_copyRow_v12_5_2 _ (f + 1) a (nI i) _ = _
    rw [u_X7_copyRow_v12_5_2]
    unfold b_X7_copyRow_v12_5_2
    rw [if_neg (show ¬ (4 : Int32) ≤ nI i from nI_ge hi (by decide)), if_neg (show ¬ (4 : Int32) ≤ nI i from nI_ge hi (by decide)), ck_t (inb_n hi (by decide)), ck_t (inb_n hi (by decide)), nI_tn (by omega), nI_1, fil_row ha]
  · intro f
    show l_X7_copyRow_v12_5_2 _ (f + 1) a (nI 4) _ = _
    rw [u_X7_copyRow_v12_5_2]
    unfold b_X7_copyRow_v12_5_2
    rw [if_pos (by decide)]
theorem s_copyRow_v13_6 {a : Nat} (ha : a ≠ 6) (I : Mem) : f_X7_copyRow_v13_6 a I = some (fil I 6 (I a) 4) := by
  unfold f_X7_copyRow_v13_6
  refine fill_loop (fun f x I => l_X7_copyRow_v13_6_2 _ f a x I) (fun I => some I) 6 4 (I a) I ?_ ?_ fuel (by rw [fuel_v]; decide)
  · intro f i hi
    show l_X7_copyRow_v13_6_2 _ (f + 1) a (nI i) _ = _
    rw [u_X7_copyRow_v13_6_2]
    unfold b_X7_copyRow_v13_6_2
    rw [if_neg (show ¬ (4 : Int32) ≤ nI i from nI_ge hi (by decide)), if_neg (show ¬ (4 : Int32) ≤ nI i from nI_ge hi (by decide)), ck_t (inb_n hi (by decide)), ck_t (inb_n hi (by decide)), nI_tn (by omega), nI_1, fil_row ha]
  · intro f
    show l_X7_copyRow_v13_6_2 _ (f + 1) a (nI 4) _ = _
    rw [u_X7_copyRow_v13_6_2]
    unfold b_X7_copyRow_v13_6_2
    rw [if_pos (by decide)]
theorem s_copyRow_v14_7 {a : Nat} (ha : a ≠ 7) (I : Mem) : f_X7_copyRow_v14_7 a I = some (fil I 7 (I a) 4) := by
  unfold f_X7_copyRow_v14_7
  refine fill_loop (fun f x I => l_X7_copyRow_v14_7_2 _ f a x I) (fun I => some I) 7 4 (I a) I ?_ ?_ fuel (by rw [fuel_v]; decide)
  · intro f i hi
    show l_X7_copyRow_v14_7_2 _ (f + 1) a (nI i) _ = _
    rw [u_X7_copyRow_v14_7_2]
    unfold b_X7_copyRow_v14_7_2
    rw [if_neg (show ¬ (4 : Int32) ≤ nI i from nI_ge hi (by decide)), if_neg (show ¬ (4 : Int32) ≤ nI i from nI_ge hi (by decide)), ck_t (inb_n hi (by decide)), ck_t (inb_n hi (by decide)), nI_tn (by omega), nI_1, fil_row ha]
  · intro f
    show l_X7_copyRow_v14_7_2 _ (f + 1) a (nI 4) _ = _
    rw [u_X7_copyRow_v14_7_2]
    unfold b_X7_copyRow_v14_7_2
    rw [if_pos (by decide)]
theorem s_copyRow_v15_8 {a : Nat} (ha : a ≠ 8) (I : Mem) : f_X7_copyRow_v15_8 a I = some (fil I 8 (I a) 100) := by
  unfold f_X7_copyRow_v15_8
  refine fill_loop (fun f x I => l_X7_copyRow_v15_8_2 _ f a x I) (fun I => some I) 8 100 (I a) I ?_ ?_ fuel (by rw [fuel_v]; decide)
  · intro f i hi
    show l_X7_copyRow_v15_8_2 _ (f + 1) a (nI i) _ = _
    rw [u_X7_copyRow_v15_8_2]
    unfold b_X7_copyRow_v15_8_2
    rw [if_neg (show ¬ (100 : Int32) ≤ nI i from nI_ge hi (by decide)), if_neg (show ¬ (100 : Int32) ≤ nI i from nI_ge hi (by decide)), ck_t (inb_n hi (by decide)), ck_t (inb_n hi (by decide)), nI_tn (by omega), nI_1, fil_row ha]
  · intro f
    show l_X7_copyRow_v15_8_2 _ (f + 1) a (nI 100) _ = _
    rw [u_X7_copyRow_v15_8_2]
    unfold b_X7_copyRow_v15_8_2
    rw [if_pos (by decide)]
theorem s_unspoil (I : Mem) : f_X7_unspoil I = some (fil I 8 (fun _ => 0) 100) := by
  unfold f_X7_unspoil
  refine fill_loop (l_X7_unspoil_2 _) (fun I => some I) 8 100 (fun _ => 0) I ?_ ?_ fuel (by rw [fuel_v]; decide)
  · intro f i hi
    show l_X7_unspoil_2 _ (f + 1) (nI i) _ = _
    rw [u_X7_unspoil_2]
    unfold b_X7_unspoil_2
    rw [if_neg (show ¬ (100 : Int32) ≤ nI i from nI_ge hi (by decide)), ck_t (inb_n hi (by decide)), nI_tn (by omega), nI_1]
  · intro f
    show l_X7_unspoil_2 _ (f + 1) (nI 100) _ = _
    rw [u_X7_unspoil_2]
    unfold b_X7_unspoil_2
    rw [if_pos (by decide)]
theorem s_unspoil_9 (I : Mem) : f_X7_unspoil_9 I = some (fil I 14 (fun _ => 0) 100) := by
  unfold f_X7_unspoil_9
  refine fill_loop (l_X7_unspoil_9_2 _) (fun I => some I) 14 100 (fun _ => 0) I ?_ ?_ fuel (by rw [fuel_v]; decide)
  · intro f i hi
    show l_X7_unspoil_9_2 _ (f + 1) (nI i) _ = _
    rw [u_X7_unspoil_9_2]
    unfold b_X7_unspoil_9_2
    rw [if_neg (show ¬ (100 : Int32) ≤ nI i from nI_ge hi (by decide)), ck_t (inb_n hi (by decide)), nI_tn (by omega), nI_1]
  · intro f
    show l_X7_unspoil_9_2 _ (f + 1) (nI 100) _ = _
    rw [u_X7_unspoil_9_2]
    unfold b_X7_unspoil_9_2
    rw [if_pos (by decide)]
/-- told s laid over told d -/
def cpT (I : Mem) (d s : Nat) : Mem := fil (fil (fil (fil (fil (stm I d 0 (I s 0)) (d + 1) (I (s + 1)) 3) (d + 2) (I (s + 2)) 4) (d + 3) (I (s + 3)) 4) (d + 4) (I (s + 4)) 4) (d + 5) (I (s + 5)) 100
theorem cpT_row {I : Mem} {d s i : Nat} (h : i < d ∨ d + 6 ≤ i) : cpT I d s i = I i := by
  unfold cpT
  rw [fil_row (by omega), fil_row (by omega), fil_row (by omega), fil_row (by omega), fil_row (by omega), stm_row (by omega)]
theorem cpT_TX {I : Mem} {d s : Nat} {τ : Td} (hS : τ 3 ≤ 4) (h : TX I s τ) : TX (cpT I d s) d τ := by
  obtain ⟨h1, h2, h3, h4⟩ := h
  refine ⟨?_, fun i hi => ?_, fun k hk => ?_, fun j hj => ?_⟩
  · unfold cpT
    rw [fil_row (by omega), fil_row (by omega), fil_row (by omega), fil_row (by omega), fil_row (by omega), stm_at]
    exact h1
  · unfold cpT
    rw [fil_row (by omega), fil_row (by omega), fil_row (by omega), fil_row (by omega), fil_lt hi]
    exact h2 i hi
  · have hk4 : k < 4 := by omega
    obtain ⟨a1, a2, a3⟩ := h3 k hk
    unfold cpT
    refine ⟨?_, ?_, ?_⟩
    · rw [fil_row (by omega), fil_row (by omega), fil_row (by omega), fil_lt hk4]
      exact a1
    · rw [fil_row (by omega), fil_row (by omega), fil_lt hk4]
      exact a2
    · rw [fil_row (by omega), fil_lt hk4]
      exact a3
  · unfold cpT
    rw [fil_lt hj]
    exact h4 j hj
theorem s_copyFrom_3_9 (I : Mem) : f_X7_copyFrom_3_9 I = some (cpT I 3 9) := by
  unfold f_X7_copyFrom_3_9
  rw [s_copyRow_10_4, bV_some, s_copyRow_11_5, bV_some, s_copyRow_12_6, bV_some, s_copyRow_13_7, bV_some, s_copyRow_14_8, bV_some]
  rfl
theorem s_copyFrom_v7_3 {a : Nat} (h : 17 ≤ a) (I : Mem) : f_X7_copyFrom_v7_3 a I = some (cpT I a 3) := by
  unfold f_X7_copyFrom_v7_3
  rw [s_copyRow_4_v11 (by omega), bV_some, s_copyRow_5_v12 (by omega), bV_some, s_copyRow_6_v13 (by omega), bV_some, s_copyRow_7_v14 (by omega), bV_some, s_copyRow_8_v15 (by omega), bV_some]
  have e : ∀ i, i < 9 → i ≠ 3 → True := fun _ _ _ => trivial
  unfold cpT
  rw [show stm I a 0 (I 3 0) 4 = I 4 from stm_row (by omega)]
  rw [show fil (stm I a 0 (I 3 0)) (a + 1) (I 4) 3 5 = I 5 by rw [fil_row (by omega), stm_row (by omega)]]
  rw [show fil (fil (stm I a 0 (I 3 0)) (a + 1) (I 4) 3) (a + 2) (I 5) 4 6 = I 6 by rw [fil_row (by omega), fil_row (by omega), stm_row (by omega)]]
  rw [show fil (fil (fil (stm I a 0 (I 3 0)) (a + 1) (I 4) 3) (a + 2) (I 5) 4) (a + 3) (I 6) 4 7 = I 7 by rw [fil_row (by omega), fil_row (by omega), fil_row (by omega), stm_row (by omega)]]
  rw [show fil (fil (fil (fil (stm I a 0 (I 3 0)) (a + 1) (I 4) 3) (a + 2) (I 5) 4) (a + 3) (I 6) 4) (a + 4) (I 7) 4 8 = I 8 by rw [fil_row (by omega), fil_row (by omega), fil_row (by omega), fil_row (by omega), stm_row (by omega)]]
theorem s_copyFrom_3_v7 {a : Nat} (h : 17 ≤ a) (I : Mem) : f_X7_copyFrom_3_v7 a I = some (cpT I 3 a) := by
  unfold f_X7_copyFrom_3_v7
  rw [s_copyRow_v11_4 (by omega), bV_some, s_copyRow_v12_5 (by omega), bV_some, s_copyRow_v13_6 (by omega), bV_some, s_copyRow_v14_7 (by omega), bV_some, s_copyRow_v15_8 (by omega), bV_some]
  unfold cpT
  rw [show stm I 3 0 (I a 0) (a + 1) = I (a + 1) from stm_row (by omega)]
  rw [show fil (stm I 3 0 (I a 0)) 4 (I (a + 1)) 3 (a + 2) = I (a + 2) by rw [fil_row (by omega), stm_row (by omega)]]
  rw [show fil (fil (stm I 3 0 (I a 0)) 4 (I (a + 1)) 3) 5 (I (a + 2)) 4 (a + 3) = I (a + 3) by rw [fil_row (by omega), fil_row (by omega), stm_row (by omega)]]
  rw [show fil (fil (fil (stm I 3 0 (I a 0)) 4 (I (a + 1)) 3) 5 (I (a + 2)) 4) 6 (I (a + 3)) 4 (a + 4) = I (a + 4) by rw [fil_row (by omega), fil_row (by omega), fil_row (by omega), stm_row (by omega)]]
  rw [show fil (fil (fil (fil (stm I 3 0 (I a 0)) 4 (I (a + 1)) 3) 5 (I (a + 2)) 4) 6 (I (a + 3)) 4) 7 (I (a + 4)) 4 (a + 5) = I (a + 5) by rw [fil_row (by omega), fil_row (by omega), fil_row (by omega), fil_row (by omega), stm_row (by omega)]]
