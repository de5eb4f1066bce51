/-! CALLS THAT ONLY ASK: where, count -/
theorem row_lt {n A x : Nat} (hA : A ≤ n) (hx : x < 2 ^ n) : x / 2 ^ A < 2 ^ (n - A) := by
  rw [Nat.div_lt_iff_lt_mul (Nat.pow_pos (by decide)), ← Nat.pow_add, show n - A + A = n by omega]
  exact hx
/-- the page to the right, both ways -/
theorem s_right {I J : Mem} {a n c s q x : Nat} (hv : vld n c) (hS : SH I a n c) (hJ : PM J n c) (hs : s ≤ 1) (hx : x < 2 ^ n) (hrow : f_X5_rowOf a (nI q) I = some (nI (x / 2 ^ acU n c n), I)) (y z : Int32) : ∃ v, j_X5_rightOf_20 a (nI q) (nI s) y z I = some (v, I) ∧ (bI (f_X9_in (y + z).toInt64 (0 : Int64) (J 89 16 - 1).toInt64 J) fun r23 I22 => (if r23 = 0 then some ((-4 : Int32), I22) else ck (inb (nI (q - 1)) 32) <| bI (f_X9_pageAt (nI s) ((nI (x / 2 ^ acU n c n) * I22 89 16) + (y + z)) I22) fun r26 I25 => some (r26, I25))) = ck (inb (nI (q - 1)) 32) (some (v, J)) ∨ j_X5_rightOf_20 a (nI q) (nI s) y z I = some (-4, I) ∧ (bI (f_X9_in (y + z).toInt64 (0 : Int64) (J 89 16 - 1).toInt64 J) fun r23 I22 => (if r23 = 0 then some ((-4 : Int32), I22) else ck (inb (nI (q - 1)) 32) <| bI (f_X9_pageAt (nI s) ((nI (x / 2 ^ acU n c n) * I22 89 16) + (y + z)) I22) fun r26 I25 => some (r26, I25))) = some (-4, J) := by
  obtain ⟨hn, hn1, hc⟩ := vld_n hv
  have hA := acU_le n c n
  have hpA := pow4 (show acU n c n < 5 by omega)
  have hpA1 : 0 < 2 ^ acU n c n := Nat.pow_pos (by decide)
  have hr := row_lt hA hx
  have hpR := pow4 (show n - acU n c n < 5 by omega)
  have h64 := to64 (n := 2 ^ acU n c n - 1) (by omega)
  have e0 : ((2 ^ acU n c n : Nat) : Int) = (2 : Int) ^ acU n c n := by rw [Int.natCast_pow]; rfl
  have e1 : ((2 ^ (n - acU n c n) : Nat) : Int) = (2 : Int) ^ (n - acU n c n) := by rw [Int.natCast_pow]; rfl
  have hcell := s_hasCell hv hS (y + z) (nI (x / 2 ^ acU n c n))
  have hrT : (nI (x / 2 ^ acU n c n)).toInt = ((x / 2 ^ acU n c n : Nat) : Int) := nI_toInt (by omega)
  have hrI : ((x / 2 ^ acU n c n : Nat) : Int) < ((2 ^ (n - acU n c n) : Nat) : Int) := by exact_mod_cast hr
  have hr0 : (0 : Int) ≤ ((x / 2 ^ acU n c n : Nat) : Int) := Int.natCast_nonneg _
  unfold j_X5_rightOf_20
  rw [hrow, bI_some, hJ.1, show nI (2 ^ acU n c n) - 1 = nI (2 ^ acU n c n - 1) from nI_sub (b := 1) (by omega) (by omega)]
  rcases arg_cases (y + z) (2 ^ acU n c n) with ⟨p, hp, -, he⟩ | ho
  · rw [he] at hcell ⊢
    have hcl := cell_lt hA hp hr
    obtain ⟨q', q1, q2, q3, q4⟩ := G2 hv hcl
    have hpT : (nI p).toInt = (p : Int) := nI_toInt (by omega)
    have hin : inC n c (nI p) (nI (x / 2 ^ acU n c n)) := by
      refine ⟨by rw [hpT]; omega, by rw [hpT, ← e0]; exact_mod_cast hp, by rw [hrT]; exact hr0, by rw [hrT, ← e1]; exact hrI⟩
    refine ⟨nI (if s = 0 then q' else beh q'), Or.inl ⟨?_, ?_⟩⟩
    · rw [hcell.1 hin, bI_some, if10, s_pageOn hv hS hs hp hr q3 q1 q2, bI_some]
    · rw [in_k (b := 0) (c := 2 ^ acU n c n - 1) (by omega) rfl h64 (Nat.zero_le _) (by omega), bI_some, if10, hJ.1, nI_mul, nI_add, s_pageAt hv hJ hs hcl q3 q1 q2, bI_some]
  · refine ⟨0, Or.inr ⟨?_, ?_⟩⟩
    · rw [hcell.2 (fun h => by
        obtain ⟨i1, i2, -, -⟩ := h
        rw [← e0] at i2
        omega), bI_some, if00]
    · rw [in_no (b := 0) (c := (2 ^ acU n c n - 1 : Nat)) rfl h64 (by omega), bI_some, if00]
/-- where(k, page, what) -/
theorem q_where {I : Mem} {L : Nat} {x : Nat → Nat} {τ : Td} {d : Nat} {us : Nat → Td} (hC : IC I L x τ d us) (hM : IM I L x τ d us) (y w a : Int32) : Sm (f_X8_where y w a) (f_X9_where y w a) I := by
  have hW := hC.wf
  have hS := hW.2.2.2.1.2
  refine q_sch hC hM (w := y) _ _ rfl rfl rfl rfl ?_
  intro k hk hy
  subst hy
  have hv := (hW.2.2.2.2.1 k hk).2
  obtain ⟨hn, hn1, hc⟩ := vld_n hv
  have hck : ∀ {α : Type} (z : Option α), ck (inb (nI k) 4) z = z := fun z => ck_t (inb_n (show k < 4 by omega) (by decide))
  have hA := acU_le (τ (8 + k)) (τ (12 + k)) (τ (8 + k))
  have hp32 := pow32 hn
  have h64 := to64 (n := 2 * 2 ^ τ (8 + k)) (by omega)
  rw [if10, if10, s_pagesOf7 hW hC.told hk, bI_some, s_pagesOf9 hW hM.told hk, bI_some]
  by_cases h1 : w.toInt < 1
  · refine ⟨-1, ?_, I, ?_, MF.refl I⟩
    · rw [if_pos (show w < 1 from lt_T.mpr h1)]
    · rw [in_no (b := 1) (c := (2 * 2 ^ τ (8 + k) : Nat)) rfl h64 (by omega), bI_some, if00]
  rcases arg_cases w (2 * 2 ^ τ (8 + k) + 1) with ⟨q, hq, -, rfl⟩ | hw
  · rw [nI_toInt (by omega)] at h1
    rw [if_neg (show ¬ nI q < 1 from nI_nlt (b := 1) (by omega) (by omega)), if_pos (nI_le (show q ≤ 2 * 2 ^ τ (8 + k) by omega) (by omega)), hck, in_k (b := 1) (c := 2 * 2 ^ τ (8 + k)) (by omega) rfl h64 (by omega) (by omega), bI_some, if10, nI_tn (by omega)]
    rcases arg_cases a 6 with ⟨i, hi, -, rfl⟩ | ha
    · obtain ⟨J, j1, j2, j3, j4, j5⟩ := s_lays hW hM.told hk
      have hMF := MF.lays j4 j5
      obtain ⟨X, s, u, hP⟩ := PG_ex hv (show 1 ≤ q by omega) (show q ≤ 2 * 2 ^ τ (8 + k) by omega)
      obtain ⟨p1, p2, p3, p4, p5, p6, p7, p8⟩ := hP
      obtain ⟨e7, e8, e9⟩ := j2.2 (q - 1) (by omega)
      have hSh := hC.sheet hk
      obtain ⟨d1, d2⟩ := divT (acU (τ (8 + k)) (τ (12 + k)) (τ (8 + k))) (by omega) X (by have := pow4 hn; omega)
      rw [in_k (b := 0) (c := 5) (by omega) rfl rfl (Nat.zero_le _) (by omega), bI_some, if10, j1, bV_some, show nI q - 1 = nI (q - 1) from nI_sub (b := 1) (by omega) (by omega), ck_t (inb_n (show q - 1 < 32 by omega) (by decide)), j2.1, ck_t (nz_ck (pow_nz (by omega))), ck_t (inb_n (show q - 1 < 32 by omega) (by decide)), ck_t (nz_ck (pow_nz (by omega))), ck_t (inb_n (show q - 1 < 32 by omega) (by decide)), nI_tn (by omega), e7, e8, p4, p5, d2, d1]
      match i, hi with
      | 0, _ =>
        refine ⟨nI s, ?_, J, ?_, hMF⟩
        · rw [if_pos (show nI 0 = (0 : Int32) from rfl), s_sideOf ⟨p1, p2, p3, p4, p5, p6, p7, p8⟩ hv hSh (by omega) (by omega), bI_some]
        · unfold j_X9_where_96
          rw [if_pos (show nI 0 = (0 : Int32) from rfl), if_pos (show nI 0 = (0 : Int32) from rfl), ck_t (inb_n (show q - 1 < 32 by omega) (by decide)), nI_tn (by omega), e8, p5, ite_self]
      | 1, _ =>
        refine ⟨nI (X % 2 ^ acU (τ (8 + k)) (τ (12 + k)) (τ (8 + k))), ?_, J, ?_, hMF⟩
        · rw [if_neg (show ¬ nI 1 = (0 : Int32) by decide), if_pos (show nI 1 = (1 : Int32) from rfl), s_columnOf ⟨p1, p2, p3, p4, p5, p6, p7, p8⟩ hv hSh (by omega) (by omega), bI_some]
        · unfold j_X9_where_96
          simp only [if_neg (show ¬ nI 1 = (0 : Int32) by decide), if_pos (show nI 1 = (1 : Int32) from rfl), ite_self]
      | 2, _ =>
        refine ⟨nI (X / 2 ^ acU (τ (8 + k)) (τ (12 + k)) (τ (8 + k))), ?_, J, ?_, hMF⟩
        · rw [if_neg (show ¬ nI 2 = (0 : Int32) by decide), if_neg (show ¬ nI 2 = (1 : Int32) by decide), if_pos (show nI 2 = (2 : Int32) from rfl), s_rowOf ⟨p1, p2, p3, p4, p5, p6, p7, p8⟩ hv hSh (by omega) (by omega), bI_some]
        · unfold j_X9_where_96
          simp only [if_neg (show ¬ nI 2 = (0 : Int32) by decide), if_neg (show ¬ nI 2 = (1 : Int32) by decide), if_pos (show nI 2 = (2 : Int32) from rfl), ite_self]
      | 3, _ =>
        refine ⟨nI u, ?_, J, ?_, hMF⟩
        · rw [if_neg (show ¬ nI 3 = (0 : Int32) by decide), if_neg (show ¬ nI 3 = (1 : Int32) by decide), if_neg (show ¬ nI 3 = (2 : Int32) by decide), if_pos (show nI 3 = (3 : Int32) from rfl), s_isOver ⟨p1, p2, p3, p4, p5, p6, p7, p8⟩ hv hSh (by omega) (by omega), bI_some]
        · unfold j_X9_where_96
          simp only [if_neg (show ¬ nI 3 = (0 : Int32) by decide), if_neg (show ¬ nI 3 = (1 : Int32) by decide), if_neg (show ¬ nI 3 = (2 : Int32) by decide), if_pos (show nI 3 = (3 : Int32) from rfl), ite_self, ck_t (inb_n (show q - 1 < 32 by omega) (by decide)), nI_tn (show q - 1 < 2 ^ 31 by omega), e9, p6]
      | 4, _ =>
        refine ⟨nI (beh q), ?_, J, ?_, hMF⟩
        · rw [if_neg (show ¬ nI 4 = (0 : Int32) by decide), if_neg (show ¬ nI 4 = (1 : Int32) by decide), if_neg (show ¬ nI 4 = (2 : Int32) by decide), if_neg (show ¬ nI 4 = (3 : Int32) by decide), if_pos (show nI 4 = (4 : Int32) from rfl), s_behind (by omega) (by omega), bI_some]
        · unfold j_X9_where_96
          have hx := xorT (q - 1) (by omega)
          rw [show q - 1 + 1 = q by omega] at hx
          simp only [if_neg (show ¬ nI 4 = (0 : Int32) by decide), if_neg (show ¬ nI 4 = (1 : Int32) by decide), if_neg (show ¬ nI 4 = (2 : Int32) by decide), if_neg (show ¬ nI 4 = (3 : Int32) by decide), if_pos (show nI 4 = (4 : Int32) from rfl), ite_self, hx]
      | 5, _ =>
        rw [if_neg (show ¬ nI 5 = (0 : Int32) by decide), if_neg (show ¬ nI 5 = (1 : Int32) by decide), if_neg (show ¬ nI 5 = (2 : Int32) by decide), if_neg (show ¬ nI 5 = (3 : Int32) by decide), if_neg (show ¬ nI 5 = (4 : Int32) by decide), if_pos (show nI 5 = (5 : Int32) from rfl)]
        have hrow := s_rowOf ⟨p1, p2, p3, p4, p5, p6, p7, p8⟩ hv hSh (show 1 ≤ q by omega) (by omega)
        have hckq : ∀ {α : Type} (z : Option α), ck (inb (nI (q - 1)) 32) z = z := fun z => ck_t (inb_n (show q - 1 < 32 by omega) (by decide))
        have hwh : ∀ z, j_X9_where_96 (nI 5) (nI (q - 1)) (nI (X % 2 ^ acU (τ (8 + k)) (τ (12 + k)) (τ (8 + k)))) (nI (X / 2 ^ acU (τ (8 + k)) (τ (12 + k)) (τ (8 + k)))) z J = (bI (f_X9_in z.toInt64 (0 : Int64) (J 89 16 - 1).toInt64 J) fun r23 I22 => (if r23 = 0 then some ((-4 : Int32), I22) else ck (inb (nI (q - 1)) 32) <| bI (f_X9_pageAt (I22 98 (tn (nI (q - 1)))) ((nI (X / 2 ^ acU (τ (8 + k)) (τ (12 + k)) (τ (8 + k))) * I22 89 16) + z) I22) fun r26 I25 => some (r26, I25))) := by
          intro z
          unfold j_X9_where_96
          rw [if_neg (show ¬ nI 5 = (0 : Int32) by decide), if_neg (show ¬ nI 5 = (1 : Int32) by decide), if_neg (show ¬ nI 5 = (2 : Int32) by decide), if_neg (show ¬ nI 5 = (3 : Int32) by decide), if_neg (show ¬ nI 5 = (4 : Int32) by decide)]
        have hin2 : ∀ (z : Int32), (bI (f_X9_in z.toInt64 (0 : Int64) (J 89 16 - 1).toInt64 J) fun r23 I22 => (if r23 = 0 then some ((-4 : Int32), I22) else ck (inb (nI (q - 1)) 32) <| bI (f_X9_pageAt (I22 98 (tn (nI (q - 1)))) ((nI (X / 2 ^ acU (τ (8 + k)) (τ (12 + k)) (τ (8 + k))) * I22 89 16) + z) I22) fun r26 I25 => some (r26, I25))) = (bI (f_X9_in z.toInt64 (0 : Int64) (J 89 16 - 1).toInt64 J) fun r23 I22 => (if r23 = 0 then some ((-4 : Int32), I22) else ck (inb (nI (q - 1)) 32) <| bI (f_X9_pageAt (nI s) ((nI (X / 2 ^ acU (τ (8 + k)) (τ (12 + k)) (τ (8 + k))) * I22 89 16) + z) I22) fun r26 I25 => some (r26, I25))) := by
          intro z
          rw [f_in32 z (lo := 0) (b := 0) rfl rfl, bI_some, bI_some, nI_tn (by omega), e8, p5]
        unfold f_X5_rightOf
        rw [s_sideOf ⟨p1, p2, p3, p4, p5, p6, p7, p8⟩ hv hSh (by omega) (by omega), bI_some, s_columnOf ⟨p1, p2, p3, p4, p5, p6, p7, p8⟩ hv hSh (by omega) (by omega), bI_some, hwh, hwh, hin2, hin2]
        by_cases h0 : s = 0
        · simp only [if_pos (show nI s = (0 : Int32) by rw [h0]; rfl)]
          obtain ⟨v, hr | hr⟩ := s_right hv hSh j2 p2 p1 hrow (nI (X % 2 ^ acU (τ (8 + k)) (τ (12 + k)) (τ (8 + k)))) 1
          · rw [hr.1, bI_some]
            exact ⟨v, rfl, J, by rw [hr.2, hckq], hMF⟩
          · rw [hr.1, bI_some]
            exact ⟨-4, rfl, J, hr.2, hMF⟩
        · simp only [if_neg (show ¬ nI s = (0 : Int32) from nI_ne0 (by omega) (by omega))]
          obtain ⟨v, hr | hr⟩ := s_right hv hSh j2 p2 p1 hrow (nI (X % 2 ^ acU (τ (8 + k)) (τ (12 + k)) (τ (8 + k)))) (-1)
          · rw [hr.1, bI_some]
            exact ⟨v, rfl, J, by rw [Int32.sub_eq_add_neg, hr.2, hckq], hMF⟩
          · rw [hr.1, bI_some]
            exact ⟨-4, rfl, J, by rw [Int32.sub_eq_add_neg]; exact hr.2, hMF⟩
    · refine ⟨-1, ?_, I, ?_, MF.refl I⟩
      · rw [if_neg (show ¬ a = (0 : Int32) from out_ne (k := 0) ha (by decide) (by decide)), if_neg (show ¬ a = (1 : Int32) from out_ne (k := 1) ha (by decide) (by decide)), if_neg (show ¬ a = (2 : Int32) from out_ne (k := 2) ha (by decide) (by decide)), if_neg (show ¬ a = (3 : Int32) from out_ne (k := 3) ha (by decide) (by decide)), if_neg (show ¬ a = (4 : Int32) from out_ne (k := 4) ha (by decide) (by decide)), if_neg (show ¬ a = (5 : Int32) from out_ne (k := 5) ha (by decide) (by decide))]
      · rw [in_no (b := 0) (c := 5) rfl rfl (by omega), bI_some, if00]
  · refine ⟨-1, ?_, I, ?_, MF.refl I⟩
    · rw [if_neg (show ¬ w < 1 from fun q => h1 (lt_T.mp q)), if_neg (show ¬ w ≤ nI (2 * 2 ^ τ (8 + k)) from fun q => by
        have a1 := le_T.mp q
        rw [nI_toInt (by omega)] at a1
        omega)]
    · rw [in_no (b := 1) (c := (2 * 2 ^ τ (8 + k) : Nat)) rfl h64 (by omega), bI_some, if00]
/-- how many of the first n are spoiled -/
def spN (τ : Td) : Nat → Nat
  | 0 => 0
  | n + 1 => spN τ n + τ (16 + n)
theorem s_spoiledSheets {I : Mem} {τ : Td} (hT : ∀ j, j < 100 → I 8 j = nI (τ (16 + j))) : f_X7_spoiledSheets I = some (nI (spN τ 100), I) := by
  unfold f_X7_spoiledSheets
  have key := iter_loop (fun f x (s : Int32) => l_X7_spoiledSheets_4 (fun (z2 : Int32) I3 => some (z2, I3)) f s x I) (some (nI (spN τ 100), I)) 0 100 (fun i => nI (spN τ i)) (by decide) ?_ ?_ fuel (by rw [fuel_v]; decide)
  · exact key
  · intro f i _ hi
    show l_X7_spoiledSheets_4 _ (f + 1) (nI (spN τ i)) (nI i) I = l_X7_spoiledSheets_4 _ f (nI (spN τ (i + 1))) (nI (i + 1)) I
    rw [u_X7_spoiledSheets_4]
    unfold b_X7_spoiledSheets_4
    rw [if_neg (show ¬ (100 : Int32) ≤ nI i from nI_ge hi (by decide)), ck_t (inb_n hi (by decide)), nI_tn (by omega), hT i hi, nI_add, nI_1]
    rfl
  · intro f
    show l_X7_spoiledSheets_4 _ (f + 1) (nI (spN τ 100)) (nI 100) I = _
    rw [u_X7_spoiledSheets_4]
    unfold b_X7_spoiledSheets_4
    rw [if_pos (by decide)]
theorem s_spoiledMany {I : Mem} {τ : Td} (hT : ∀ j, j < 100 → I 91 (28 + j) = nI (τ (16 + j))) (h0 : ∀ j, j < 4 → I 91 (128 + j) = 0) : f_X9_spoiledMany I = some (nI (spN τ 100), I) := by
  unfold f_X9_spoiledMany
  have key := iter_loop (fun f x (s : Int32) => l_X9_spoiledMany_4 (fun (z2 : Int32) I3 => some (z2, I3)) f s x I) (some (nI (spN τ 100), I)) 0 104 (fun i => nI (spN τ (min i 100))) (by decide) ?_ ?_ fuel (by rw [fuel_v]; decide)
  · exact key
  · intro f i _ hi
    show l_X9_spoiledMany_4 _ (f + 1) (nI (spN τ (min i 100))) (nI i) I = l_X9_spoiledMany_4 _ f (nI (spN τ (min (i + 1) 100))) (nI (i + 1)) I
    rw [u_X9_spoiledMany_4]
    unfold b_X9_spoiledMany_4
    rw [if_neg (show ¬ (104 : Int32) ≤ nI i from nI_ge hi (by decide)), show (28 : Int32) + nI i = nI (28 + i) from nI_add 28 i, ck_t (inb_n (show 28 + i < 132 by omega) (by decide)), nI_tn (by omega), nI_1]
    by_cases h : i < 100
    · rw [hT i h, nI_add, Nat.min_eq_left (by omega), Nat.min_eq_left (by omega)]
      rfl
    · rw [show 28 + i = 128 + (i - 100) by omega, h0 _ (by omega), Int32.add_zero, Nat.min_eq_right (by omega), Nat.min_eq_right (by omega)]
  · intro f
    show l_X9_spoiledMany_4 _ (f + 1) (nI (spN τ (min 104 100))) (nI 104) I = _
    rw [u_X9_spoiledMany_4]
    unfold b_X9_spoiledMany_4
    rw [if_pos (by decide)]
    rfl
/-- count(what) -/
theorem q_count {I : Mem} {L : Nat} {x : Nat → Nat} {τ : Td} {d : Nat} {us : Nat → Td} (hC : IC I L x τ d us) (hM : IM I L x τ d us) (w : Int32) : Sm (f_X8_count w) (f_X9_count w) I := by
  have hW := hC.wf
  obtain ⟨⟨hL, -, -⟩, -, hT, ⟨κ, hH⟩, -⟩ := id hC
  obtain ⟨hL9, -, hT9, hH9⟩ := id hM
  have e9 : ∃ v, f_X9_count w I = some (v, I) := by
    unfold f_X9_count
    rw [s_spoiledMany hT9.2.2.1 hT9.2.2.2, bI_some]
    repeat' split
    all_goals exact ⟨_, rfl⟩
  obtain ⟨v, hv⟩ := e9
  refine Sm_q hC hM (v := v) ?_ ⟨I, hv, MF.refl I⟩
  rw [← hv]
  unfold f_X8_count f_X9_count
  rw [s_spoiledSheets hT.2.2.2, bI_some, s_spoiledMany hT9.2.2.1 hT9.2.2.2, bI_some, show I 4 0 = nI (τ 0) from hT.2.1 0 (by decide), show I 4 1 = nI (τ 1) from hT.2.1 1 (by decide), show I 4 2 = nI (τ 2) from hT.2.1 2 (by decide), hT.1, hH.1, hL, hT9.1 3 (by decide), hT9.1 0 (by decide), hT9.1 1 (by decide), hT9.1 2 (by decide), hH9.1, hL9]
