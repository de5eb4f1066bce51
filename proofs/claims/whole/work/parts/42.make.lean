/-! THE PLAN: the class chooses and makes -/
/-- what is left for the schemes from k on, and how many sheets of scheme k -/
def rsT (τ : Td) (n k : Nat) : Nat := rs (zt τ) (pt τ) (τ 3) (un τ n) k
def plF (τ : Td) (n k : Nat) : Nat := if k < τ 3 then mo (zt τ) (pt τ) (τ 3) k (rsT τ n k) else 0
theorem plF_lt {τ : Td} {n k : Nat} (h : k < τ 3) : plF τ n k = mo (zt τ) (pt τ) (τ 3) k (rsT τ n k) := if_pos h
theorem plF_ge {τ : Td} {n k : Nat} (h : τ 3 ≤ k) : plF τ n k = 0 := if_neg (by omega)
theorem rsT_0 (τ : Td) (n : Nat) : rsT τ n 0 = un τ n := rfl
theorem rsT_S {τ : Td} {n k : Nat} (h : k < τ 3) : rsT τ n (k + 1) = rsT τ n k - plF τ n k * zt τ k := by
  rw [plF_lt h]
  rfl
theorem un_ok {τ : Td} (hW : WF τ) {n : Nat} (hn : n ≤ 400) : ls (zt τ) (pt τ) (τ 3) 0 (un τ n) ≠ none := by
  obtain ⟨-, -, ⟨c, hc⟩, -⟩ := un_spec hW hn
  intro e
  have : lt' τ 0 (un τ n) = none := e
  rw [this] at hc
  cases hc
theorem plF_spec {τ : Td} (hW : WF τ) {n k : Nat} (hn : n ≤ 400) (hk : k < τ 3) : plF τ n k * zt τ k ≤ rsT τ n k ∧ ∃ c c', lt' τ k (rsT τ n k) = some c ∧ lt' τ (k + 1) (rsT τ n (k + 1)) = some c' ∧ c' + plF τ n k * pt τ k = c := by
  have h := rs_some (okz_of hW) (un_ok hW hn) k (by omega)
  cases hc : ls (zt τ) (pt τ) (τ 3) k (rs (zt τ) (pt τ) (τ 3) (un τ n) k) with
  | none => exact absurd hc h
  | some c =>
    obtain ⟨a1, c', a2, a3⟩ := mo_spec (okz_of hW) hk hc
    rw [plF_lt hk]
    refine ⟨a1, c, c', hc, ?_, a3⟩
    rw [rsT_S hk, plF_lt hk]
    exact a2
theorem rsT_le {τ : Td} {n : Nat} : ∀ k, k ≤ τ 3 → rsT τ n k ≤ un τ n := by
  intro k
  induction k with
  | zero => intro _; exact Nat.le_refl _
  | succ k ih =>
    intro hk
    have := ih (by omega)
    rw [rsT_S (by omega)]
    omega
theorem rsT_end {τ : Td} (hW : WF τ) {n : Nat} (hn : n ≤ 400) : rsT τ n (τ 3) = 0 := rs_end (okz_of hW) (un_ok hW hn)
theorem s_choose {I : Mem} {τ : Td} (hW : WF τ) (hT : TX I 3 τ) (hL : LX I τ 0) {n : Nat} (hn : n ≤ 400) : f_X4_choose_76_3 (nI (un τ n)) I = some (fil I 83 (fun k => nI (plF τ n k)) (τ 3)) := by
  have hS := hW.2.2.2.1.2
  obtain ⟨-, hu, -, -⟩ := un_spec hW hn
  unfold f_X4_choose_76_3
  have key := iter_loop (fun f x (s : Int32 × Mem) => l_X4_choose_76_3_5 (fun I7 => some I7) f s.1 x s.2) (some (fil I 83 (fun k => nI (plF τ n k)) (τ 3))) 0 (τ 3) (fun k => (nI (rsT τ n k), fil I 83 (fun k => nI (plF τ n k)) k)) (Nat.zero_le _) ?_ ?_ fuel (by rw [fuel_v]; omega)
  · have e := key
    dsimp only at e
    rw [fil_0] at e
    exact e
  · intro f k _ hk
    show l_X4_choose_76_3_5 _ (f + 1) (nI (rsT τ n k)) (nI k) (fil I 83 (fun k => nI (plF τ n k)) k) = l_X4_choose_76_3_5 _ f (nI (rsT τ n (k + 1))) (nI (k + 1)) (fil I 83 (fun k => nI (plF τ n k)) (k + 1))
    have hr := rsT_le (n := n) k (Nat.le_of_lt hk)
    have hT' : TX (fil I 83 (fun k => nI (plF τ n k)) k) 3 τ := hT.rows (fun r _ _ => fil_row (by omega))
    have hL' : LX (fil I 83 (fun k => nI (plF τ n k)) k) τ 0 := fun j a b u hu => by rw [fil_row (by omega)]; exact hL j a b u hu
    have hT2 : TX (fil I 83 (fun k => nI (plF τ n k)) (k + 1)) 3 τ := hT.rows (fun r _ _ => fil_row (by omega))
    obtain ⟨hp, -⟩ := plF_spec hW hn hk
    rw [u_X4_choose_76_3_5]
    unfold b_X4_choose_76_3_5
    rw [fil_row (show 3 ≠ 83 by decide), hT.1, if_neg (nI_ge hk (by omega)), s_mostOf hW hT' hL' hk (by omega), bI_some, ck_t (inb_n (show k < 4 by omega) (by decide)), ck_t (inb_n (show k < 4 by omega) (by decide)), nI_tn (by omega), ← plF_lt hk, fil_e (v := fun k => nI (plF τ n k)) rfl, s_unitsOf hW hT2 hk, bI_some, fil_lt (show k < k + 1 by omega), nI_mul, nI_sub hp (by omega), nI_1, ← rsT_S hk]
  · intro f
    show l_X4_choose_76_3_5 _ (f + 1) (nI (rsT τ n (τ 3))) (nI (τ 3)) (fil I 83 (fun k => nI (plF τ n k)) (τ 3)) = _
    rw [u_X4_choose_76_3_5]
    unfold b_X4_choose_76_3_5
    rw [fil_row (show 3 ≠ 83 by decide), hT.1, if_pos (nI_le (Nat.le_refl _) (by omega))]
/-- the plan that the class keeps -/
def PLX (I : Mem) (τ : Td) : Prop := (∀ u, u < 108 → I 78 u = eX (lt' τ 0 u)) ∧ (∀ k, k < τ 3 → I 83 k = nI (plF τ (τ 0) k)) ∧ I 76 2 = eX (lt' τ 0 (un τ (τ 0)))
theorem s_make {I : Mem} {τ : Td} (hW : WF τ) (hT : TX I 3 τ) : ∃ I', f_X4_make_76_3 I = some I' ∧ PLX I' τ ∧ ∀ r, r < 76 ∨ 84 ≤ r → I' r = I r := by
  have hS := hW.2.2.2.1.2
  have hN := hW.1.2
  obtain ⟨I1, a1, a2, a3⟩ := s_weigh hW hT
  have hT1 : TX I1 3 τ := hT.rows (fun r _ _ => a3 r (by omega))
  obtain ⟨-, hu, ⟨c, hc⟩, -⟩ := un_spec hW hN
  have h78 : ∀ u, u < 108 → I1 78 u = eX (lt' τ 0 u) := fun u hu => a2 0 (by omega) (by omega) u hu
  unfold f_X4_make_76_3
  rw [a1, bV_some, show I1 4 0 = nI (τ 0) from hT1.2.1 0 (by decide), s_unitsFor hN h78 (fun u c hu hc => by have := ls_le (okz_of hW) (Nat.zero_le _) hc; omega), bI_some, ck_t (inb_n (show un τ (τ 0) < 108 by omega) (by decide)), nI_tn (by omega), h78 _ (by omega)]
  generalize hM : stm I1 76 2 (eX (lt' τ 0 (un τ (τ 0)))) = M
  have hr : ∀ r, r ≠ 76 → M r = I1 r := fun r h => by rw [← hM, stm_row h]
  rw [s_choose hW (hT1.rows (fun r _ _ => hr r (by omega))) (fun j x y u hu => by rw [hr _ (by omega)]; exact a2 j x y u hu) hN]
  refine ⟨_, rfl, ⟨?_, ?_, ?_⟩, ?_⟩
  · intro u hu
    rw [fil_row (by decide), hr _ (by decide)]
    exact h78 u hu
  · intro k hk
    rw [fil_lt hk]
  · rw [fil_row (by decide), ← hM, stm_at]
  · intro r h
    rw [fil_row (by omega), hr r (by omega), a3 r (by omega)]
