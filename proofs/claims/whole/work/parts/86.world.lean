/-! ONE WORLD: the class's cells and the reference's -/
theorem at_ad {D : va_G} {ad ad' : Nat → Nat} {y : Nat → ClassId} {k a : Nat} {w : Nat → Int32} {H : Heap} (hk : k < 89) (h : ∀ i, i < 89 → ad' i = ad i) (h16 : k = 16 → ∀ j, j < 6 → (w j).toNatClampNeg < 89) (hv : va_at D vwCl (a, cellOf ad y k w) H) : va_at D vwCl (a, cellOf ad' y k w) H := by
  match k, hk, h16, hv with
  | 0, _, _, hv =>
    show va_at D vwCl (a, .inr (8, [.ref (ad' 1), .ref (ad' 3), .ref (ad' 9), .ref (ad' 15), .ref (ad' 53), .ref (ad' 70), .ref (ad' 76), .ref (ad' 84)])) H
    rw [h 1 (by decide), h 3 (by decide), h 9 (by decide), h 15 (by decide), h 53 (by decide), h 70 (by decide), h 76 (by decide), h 84 (by decide)]
    exact hv
  | 1, _, _, hv =>
    show va_at D vwCl (a, .inr (6, [.ref (ad' 2), .int (w 1)])) H
    rw [h 2 (by decide)]
    exact hv
  | 2, _, _, hv => exact hv
  | 3, _, _, hv =>
    show va_at D vwCl (a, .inr (7, [.int (w 0), .ref (ad' 4), .ref (ad' 5), .ref (ad' 6), .ref (ad' 7), .ref (ad' 8)])) H
    rw [h 4 (by decide), h 5 (by decide), h 6 (by decide), h 7 (by decide), h 8 (by decide)]
    exact hv
  | 4, _, _, hv => exact hv
  | 5, _, _, hv => exact hv
  | 6, _, _, hv => exact hv
  | 7, _, _, hv => exact hv
  | 8, _, _, hv => exact hv
  | 9, _, _, hv =>
    show va_at D vwCl (a, .inr (7, [.int (w 0), .ref (ad' 10), .ref (ad' 11), .ref (ad' 12), .ref (ad' 13), .ref (ad' 14)])) H
    rw [h 10 (by decide), h 11 (by decide), h 12 (by decide), h 13 (by decide), h 14 (by decide)]
    exact hv
  | 10, _, _, hv => exact hv
  | 11, _, _, hv => exact hv
  | 12, _, _, hv => exact hv
  | 13, _, _, hv => exact hv
  | 14, _, _, hv => exact hv
  | 15, _, _, hv =>
    show va_at D vwCl (a, .inr (1, [.ref (ad' 16), .int (w 1)])) H
    rw [h 16 (by decide)]
    exact hv
  | 16, _, h16, hv =>
    show H[a]? = some (vp_cell (y 3) (6, .inr (.inr (.inr (.inr (fun k => some (ad' (w k).toNatClampNeg)))))))
    rw [vp_cell_q, ← arrV_congr (f := fun j => va_rf (some (ad (w j).toNatClampNeg))) (fun j hj => by rw [h _ (h16 rfl j hj)])]
    exact hv
  | 17, _, _, hv =>
    show va_at D vwCl (a, .inr (7, [.int (w 0), .ref (ad' 18), .ref (ad' 19), .ref (ad' 20), .ref (ad' 21), .ref (ad' 22)])) H
    rw [h 18 (by decide), h 19 (by decide), h 20 (by decide), h 21 (by decide), h 22 (by decide)]
    exact hv
  | 18, _, _, hv => exact hv
  | 19, _, _, hv => exact hv
  | 20, _, _, hv => exact hv
  | 21, _, _, hv => exact hv
  | 22, _, _, hv => exact hv
  | 23, _, _, hv =>
    show va_at D vwCl (a, .inr (7, [.int (w 0), .ref (ad' 24), .ref (ad' 25), .ref (ad' 26), .ref (ad' 27), .ref (ad' 28)])) H
    rw [h 24 (by decide), h 25 (by decide), h 26 (by decide), h 27 (by decide), h 28 (by decide)]
    exact hv
  | 24, _, _, hv => exact hv
  | 25, _, _, hv => exact hv
  | 26, _, _, hv => exact hv
  | 27, _, _, hv => exact hv
  | 28, _, _, hv => exact hv
  | 29, _, _, hv =>
    show va_at D vwCl (a, .inr (7, [.int (w 0), .ref (ad' 30), .ref (ad' 31), .ref (ad' 32), .ref (ad' 33), .ref (ad' 34)])) H
    rw [h 30 (by decide), h 31 (by decide), h 32 (by decide), h 33 (by decide), h 34 (by decide)]
    exact hv
  | 30, _, _, hv => exact hv
  | 31, _, _, hv => exact hv
  | 32, _, _, hv => exact hv
  | 33, _, _, hv => exact hv
  | 34, _, _, hv => exact hv
  | 35, _, _, hv =>
    show va_at D vwCl (a, .inr (7, [.int (w 0), .ref (ad' 36), .ref (ad' 37), .ref (ad' 38), .ref (ad' 39), .ref (ad' 40)])) H
    rw [h 36 (by decide), h 37 (by decide), h 38 (by decide), h 39 (by decide), h 40 (by decide)]
    exact hv
  | 36, _, _, hv => exact hv
  | 37, _, _, hv => exact hv
  | 38, _, _, hv => exact hv
  | 39, _, _, hv => exact hv
  | 40, _, _, hv => exact hv
  | 41, _, _, hv =>
    show va_at D vwCl (a, .inr (7, [.int (w 0), .ref (ad' 42), .ref (ad' 43), .ref (ad' 44), .ref (ad' 45), .ref (ad' 46)])) H
    rw [h 42 (by decide), h 43 (by decide), h 44 (by decide), h 45 (by decide), h 46 (by decide)]
    exact hv
  | 42, _, _, hv => exact hv
  | 43, _, _, hv => exact hv
  | 44, _, _, hv => exact hv
  | 45, _, _, hv => exact hv
  | 46, _, _, hv => exact hv
  | 47, _, _, hv =>
    show va_at D vwCl (a, .inr (7, [.int (w 0), .ref (ad' 48), .ref (ad' 49), .ref (ad' 50), .ref (ad' 51), .ref (ad' 52)])) H
    rw [h 48 (by decide), h 49 (by decide), h 50 (by decide), h 51 (by decide), h 52 (by decide)]
    exact hv
  | 48, _, _, hv => exact hv
  | 49, _, _, hv => exact hv
  | 50, _, _, hv => exact hv
  | 51, _, _, hv => exact hv
  | 52, _, _, hv => exact hv
  | 53, _, _, hv =>
    show H[a]? = some (vp_cell (y 4) (4, .inr (.inr (.inr (.inr (fun k => some (ad' (54 + 4 * k))))))))
    rw [vp_cell_q, ← arrV_congr (f := fun j => va_rf (some (ad (54 + 4 * j)))) (fun j hj => by rw [h (54 + 4 * j) (by omega)])]
    exact hv
  | 54, _, _, hv =>
    show va_at D vwCl (a, .inr (5, [.int (w 0), .int (w 1), .int (w 2), .ref (ad' 55), .ref (ad' 56), .ref (ad' 57)])) H
    rw [h 55 (by decide), h 56 (by decide), h 57 (by decide)]
    exact hv
  | 55, _, _, hv => exact hv
  | 56, _, _, hv => exact hv
  | 57, _, _, hv => exact hv
  | 58, _, _, hv =>
    show va_at D vwCl (a, .inr (5, [.int (w 0), .int (w 1), .int (w 2), .ref (ad' 59), .ref (ad' 60), .ref (ad' 61)])) H
    rw [h 59 (by decide), h 60 (by decide), h 61 (by decide)]
    exact hv
  | 59, _, _, hv => exact hv
  | 60, _, _, hv => exact hv
  | 61, _, _, hv => exact hv
  | 62, _, _, hv =>
    show va_at D vwCl (a, .inr (5, [.int (w 0), .int (w 1), .int (w 2), .ref (ad' 63), .ref (ad' 64), .ref (ad' 65)])) H
    rw [h 63 (by decide), h 64 (by decide), h 65 (by decide)]
    exact hv
  | 63, _, _, hv => exact hv
  | 64, _, _, hv => exact hv
  | 65, _, _, hv => exact hv
  | 66, _, _, hv =>
    show va_at D vwCl (a, .inr (5, [.int (w 0), .int (w 1), .int (w 2), .ref (ad' 67), .ref (ad' 68), .ref (ad' 69)])) H
    rw [h 67 (by decide), h 68 (by decide), h 69 (by decide)]
    exact hv
  | 67, _, _, hv => exact hv
  | 68, _, _, hv => exact hv
  | 69, _, _, hv => exact hv
  | 70, _, _, hv =>
    show va_at D vwCl (a, .inr (2, [.ref (ad' 71), .ref (ad' 75)])) H
    rw [h 71 (by decide), h 75 (by decide)]
    exact hv
  | 71, _, _, hv =>
    show va_at D vwCl (a, .inr (5, [.int (w 0), .int (w 1), .int (w 2), .ref (ad' 72), .ref (ad' 73), .ref (ad' 74)])) H
    rw [h 72 (by decide), h 73 (by decide), h 74 (by decide)]
    exact hv
  | 72, _, _, hv => exact hv
  | 73, _, _, hv => exact hv
  | 74, _, _, hv => exact hv
  | 75, _, _, hv => exact hv
  | 76, _, _, hv =>
    show va_at D vwCl (a, .inr (4, [.ref (ad' 77), .ref (ad' 83), .int (w 2)])) H
    rw [h 77 (by decide), h 83 (by decide)]
    exact hv
  | 77, _, _, hv =>
    show H[a]? = some (vp_cell (y 5) (5, .inr (.inr (.inr (.inr (fun k => some (ad' (78 + k))))))))
    rw [vp_cell_q, ← arrV_congr (f := fun j => va_rf (some (ad (78 + j)))) (fun j hj => by rw [h (78 + j) (by omega)])]
    exact hv
  | 78, _, _, hv => exact hv
  | 79, _, _, hv => exact hv
  | 80, _, _, hv => exact hv
  | 81, _, _, hv => exact hv
  | 82, _, _, hv => exact hv
  | 83, _, _, hv => exact hv
  | 84, _, _, hv =>
    show va_at D vwCl (a, .inr (0, [.int (w 0), .int (w 1), .ref (ad' 85), .ref (ad' 86), .ref (ad' 87), .ref (ad' 88)])) H
    rw [h 85 (by decide), h 86 (by decide), h 87 (by decide), h 88 (by decide)]
    exact hv
  | 85, _, _, hv => exact hv
  | 86, _, _, hv => exact hv
  | 87, _, _, hv => exact hv
  | 88, _, _, hv => exact hv
  | k + 89, hk, _, _ => exact absurd hk (by omega)
def adj (ad v : Nat → Nat) : Nat → Nat := fun i => if i < 89 then ad i else if i < 104 then v (i - 89) else ad i
theorem adj_lo {ad v : Nat → Nat} {i : Nat} (h : i < 89) : adj ad v i = ad i := if_pos h
theorem adj_hi {ad v : Nat → Nat} {i : Nat} (h : 1000 ≤ i) : adj ad v i = ad i := by
  unfold adj
  rw [if_neg (by omega), if_neg (by omega)]
section WJ
variable {l : Launch} {D : va_G} {y : Nat → ClassId} {ad v : Nat → Nat} {sz : Nat} {I1 : Mem} {H : Heap} {A : Nat → Prop}
theorem wl_len {G : Gt} {I : Mem} : (wl G I).length = gn G := by
  unfold wl
  rw [List.length_map, List.length_range]
theorem wj_lo {k : Nat} (hk : k < 89) : (wl (Gm l D y ad sz 89) I1 ++ modelW y v)[k]? = some (ad k, cellOf ad y k (I1 k)) := by
  rw [List.getElem?_append_left (by rw [wl_len]; exact hk)]
  exact wl_get (G := Gm l D y ad sz 89) hk
theorem wj_hi {k : Nat} : (wl (Gm l D y ad sz 89) I1 ++ modelW y v)[89 + k]? = (modelW y v)[k]? := by
  have e : (wl (Gm l D y ad sz 89) I1).length = 89 := wl_len
  rw [List.getElem?_append_right (by rw [e]; omega), e, Nat.add_sub_cancel_left]
set_option maxRecDepth 100000 in
theorem mdl_at {k : Nat} (hk : k < 15) : (modelW y v)[k]? = some (adj ad v (89 + k), cellOf (adj ad v) y (89 + k) (jn I1 (89 + k))) := by
  match k, hk with
  | 0, _ => rfl
  | 1, _ => rfl
  | 2, _ => rfl
  | 3, _ => rfl
  | 4, _ => rfl
  | 5, _ => rfl
  | 6, _ => rfl
  | 7, _ => rfl
  | 8, _ => rfl
  | 9, _ => rfl
  | 10, _ => rfl
  | 11, _ => rfl
  | 12, _ => rfl
  | 13, _ => rfl
  | 14, _ => rfl
theorem wj_ok (hD : va_D (fun q => sz ≤ q) (wl (Gm l D y ad sz 89) I1 ++ modelW y v)) : Gok (Gm l D y (adj ad v) sz 104) := by
  have key : ∀ k, k < 104 → ∃ e, (wl (Gm l D y ad sz 89) I1 ++ modelW y v)[k]? = some (adj ad v k, e) := by
    intro k hk
    by_cases h : k < 89
    · exact ⟨_, by rw [adj_lo h]; exact wj_lo h⟩
    · obtain ⟨j, rfl⟩ : ∃ j, k = 89 + j := ⟨k - 89, by omega⟩
      exact ⟨_, wj_hi.trans (mdl_at (I1 := I1) (by omega))⟩
  refine ⟨fun i j hi hj h => ?_, fun i hi => ?_⟩
  · obtain ⟨e1, h1⟩ := key i hi
    obtain ⟨e2, h2⟩ := key j hj
    exact hD.1 i j _ _ h1 h2 h
  · obtain ⟨e1, h1⟩ := key i hi
    exact hD.2 i _ h1
theorem wj_P (h16 : ∀ j, j < 6 → (I1 16 j).toNatClampNeg < 89) (hP : va_P D vwCl (wl (Gm l D y ad sz 89) I1 ++ modelW y v) H) : va_P D vwCl (wl (Gm l D y (adj ad v) sz 104) (jn I1)) H := by
  intro k q hq
  obtain ⟨hk, rfl⟩ := wl_some hq
  show va_at D vwCl (adj ad v k, cellOf (adj ad v) y k (jn I1 k)) H
  by_cases h : k < 89
  · rw [adj_lo h, show jn I1 k = I1 k from if_pos h]
    refine at_ad h (fun i hi => adj_lo hi) (fun e => ?_) (hP k _ (wj_lo h))
    rw [e]
    exact h16
  · obtain ⟨j, rfl⟩ : ∃ j, k = 89 + j := ⟨k - 89, by omega⟩
    have hk : 89 + j < 104 := hk
    exact hP (89 + j) _ (wj_hi.trans (mdl_at (I1 := I1) (by omega)))
end WJ
