/-! KINDS: the class's trials of all texts -/
def vB (c : Nat) : Prop := c % 4 = 1 ∨ c % 4 = 2
theorem vB_ac {c : Nat} : acF (c % 4) = 1 ↔ vB c := by
  unfold acF vB
  by_cases h : c % 4 = 1 ∨ c % 4 = 2 <;> simp [h]
theorem vB_ac0 {c : Nat} : acF (c % 4) = 0 ↔ ¬ vB c := by
  unfold acF vB
  by_cases h : c % 4 = 1 ∨ c % 4 = 2 <;> simp [h]
def SameP (n c c' : Nat) : Prop := acU n c n = acU n c' n ∧ ∀ i, i < 2 ^ n → frI n c i = frI n c' i ∧ ovI n c i = ovI n c' i
theorem SameP.symm {n c c' : Nat} (h : SameP n c c') : SameP n c' c := ⟨h.1.symm, fun i hi => ⟨(h.2 i hi).1.symm, (h.2 i hi).2.symm⟩⟩
theorem SameP.trans {n c c' c'' : Nat} (h : SameP n c c') (g : SameP n c' c'') : SameP n c c'' := ⟨h.1.trans g.1, fun i hi => ⟨(h.2 i hi).1.trans (g.2 i hi).1, (h.2 i hi).2.trans (g.2 i hi).2⟩⟩
theorem SameP.refl (n c : Nat) : SameP n c c := ⟨rfl, fun _ _ => ⟨rfl, rfl⟩⟩
def mkI (n c i : Nat) : Int32 := ((nI (2 ^ acU n c n) * 64 + frI n c i) * 2) + ovI n c i
theorem ov_01 {n c i : Nat} (hv : vld n c) (hi : i < 2 ^ n) : ∃ u, u ≤ 1 ∧ ovI n c i = nI u := by
  obtain ⟨hn, -, -⟩ := vld_n hv
  have h16 := pow4 hn
  obtain ⟨q, q1, q2, q3, q4⟩ := G2 hv hi
  obtain ⟨x, x1, x2, x3, -, x5⟩ := G1 (p := q - 1) hv (by omega)
  have : i = x := (nI_eq (by omega) (by omega)).mp (q4.symm.trans x2)
  subst this
  rw [← x3]
  rcases x5 with e | e
  · exact ⟨0, by omega, e⟩
  · exact ⟨1, by omega, e⟩
theorem mk_same {n c c' i : Nat} (hv : vld n c) (hv' : vld n c') (hi : i < 2 ^ n) : mkI n c i = mkI n c' i ↔ (acU n c n = acU n c' n ∧ frI n c i = frI n c' i ∧ ovI n c i = ovI n c' i) := by
  obtain ⟨hn, -, -⟩ := vld_n hv
  have h16 := pow4 hn
  have hA := acU_le n c n
  have hA' := acU_le n c' n
  obtain ⟨q, q1, q2, q3, -⟩ := G2 hv hi
  obtain ⟨q', q1', q2', q3', -⟩ := G2 hv' hi
  obtain ⟨u, u1, u2⟩ := ov_01 hv hi
  obtain ⟨u', u1', u2'⟩ := ov_01 hv' hi
  have hp := pow4 (show acU n c n < 5 by omega)
  have hp' := pow4 (show acU n c' n < 5 by omega)
  unfold mkI
  rw [q3, q3', u2, u2', show nI (2 ^ acU n c n) * 64 = nI (2 ^ acU n c n * 64) from nI_mul _ 64, show nI (2 ^ acU n c' n) * 64 = nI (2 ^ acU n c' n * 64) from nI_mul _ 64, nI_add, nI_add, show nI (2 ^ acU n c n * 64 + q) * 2 = nI ((2 ^ acU n c n * 64 + q) * 2) from nI_mul _ 2, show nI (2 ^ acU n c' n * 64 + q') * 2 = nI ((2 ^ acU n c' n * 64 + q') * 2) from nI_mul _ 2, nI_add, nI_add, nI_eq (by omega) (by omega), nI_eq (by omega) (by omega), nI_eq (by omega) (by omega)]
  constructor
  · intro h
    have h1 : 2 ^ acU n c n = 2 ^ acU n c' n := by omega
    refine ⟨?_, by omega, by omega⟩
    rcases Nat.lt_trichotomy (acU n c n) (acU n c' n) with g | g | g
    · have := Nat.pow_lt_pow_right (a := 2) (by decide) g
      omega
    · exact g
    · have := Nat.pow_lt_pow_right (a := 2) (by decide) g
      omega
  · rintro ⟨h1, h2, h3⟩
    rw [h1, h2, h3]
theorem same_marks {n c c' : Nat} (hv : vld n c) (hv' : vld n c') : (∀ i, i < 2 ^ n → mkI n c i = mkI n c' i) ↔ SameP n c c' := by
  constructor
  · intro h
    have h0 := (mk_same hv hv' (Nat.pow_pos (by decide))).mp (h 0 (Nat.pow_pos (by decide)))
    exact ⟨h0.1, fun i hi => ((mk_same hv hv' hi).mp (h i hi)).2⟩
  · intro h i hi
    exact (mk_same hv hv' hi).mpr ⟨h.1, h.2 i hi⟩
/-- both sides tell the same kinds -/
def kmI (n c p : Nat) : Int32 := ((64 : Int32) * tuI n c p + 32 * siI n c p) + ceI n c p
theorem km_same {n c c' : Nat} (hv : vld n c) (hv' : vld n c') : (acU n c n = acU n c' n ∧ ∀ p, p < 2 * 2 ^ n → kmI n c p = kmI n c' p) ↔ SameP n c c' := by
  obtain ⟨hn, -, -⟩ := vld_n hv
  have h16 := pow4 hn
  have dec : ∀ p, p < 2 * 2 ^ n → (kmI n c p = kmI n c' p ↔ (tuI n c p = tuI n c' p ∧ siI n c p = siI n c' p ∧ ceI n c p = ceI n c' p)) := by
    intro p hp
    obtain ⟨x, s, u, h1, h2, h3, h4, h5, h6, -, -⟩ := PG_ex (q := p + 1) hv (by omega) (by omega)
    obtain ⟨x', s', u', h1', h2', h3', h4', h5', h6', -, -⟩ := PG_ex (q := p + 1) hv' (by omega) (by omega)
    rw [Nat.add_sub_cancel] at h4 h5 h6 h4' h5' h6'
    unfold kmI
    rw [h4, h5, h6, h4', h5', h6', show (64 : Int32) * nI u = nI (64 * u) from nI_mul 64 u, show (64 : Int32) * nI u' = nI (64 * u') from nI_mul 64 u', show (32 : Int32) * nI s = nI (32 * s) from nI_mul 32 s, show (32 : Int32) * nI s' = nI (32 * s') from nI_mul 32 s', nI_add, nI_add, nI_add, nI_add, nI_eq (by omega) (by omega), nI_eq (by omega) (by omega), nI_eq (by omega) (by omega), nI_eq (by omega) (by omega)]
    omega
  constructor
  · rintro ⟨hA, h⟩
    refine ⟨hA, fun i hi => ?_⟩
    obtain ⟨q, q1, q2, q3, q4⟩ := G2 hv hi
    obtain ⟨d1, d2, d3⟩ := (dec (q - 1) (by omega)).mp (h (q - 1) (by omega))
    obtain ⟨x, x1, x2, x3, x4, -⟩ := G1 (p := q - 1) hv (by omega)
    obtain ⟨y, y1, y2, y3, y4, -⟩ := G1 (p := q - 1) hv' (by omega)
    have ex : i = x := (nI_eq (by omega) (by omega)).mp (q4.symm.trans x2)
    subst ex
    have ey : i = y := (nI_eq (by omega) (by omega)).mp (x2.symm.trans (d3.trans y2))
    subst ey
    rw [show q - 1 + 1 = q by omega] at x4 y4
    obtain ⟨bb1, bb2, bb3, bb4, -, -⟩ := behT q (by omega) q1
    have hs : siI n c (q - 1) = 0 := by
      rcases x4 with e | e
      · exact e.1
      · have := (nI_eq (by omega) (by omega)).mp (q3.symm.trans e.2)
        exact absurd this.symm (beh_ne q q1)
    have hs' : frI n c' i = nI q := by
      rcases y4 with e | e
      · exact e.2
      · rw [← d2, hs] at e
        exact absurd e.1 (by decide)
    refine ⟨by rw [q3, hs'], ?_⟩
    rw [← x3, ← y3, d1]
  · rintro ⟨hA, h⟩
    refine ⟨hA, fun p hp => (dec p hp).mpr ?_⟩
    obtain ⟨x, x1, x2, x3, x4, -⟩ := G1 hv hp
    obtain ⟨y, y1, y2, y3, y4, -⟩ := G1 hv' hp
    obtain ⟨hf, ho⟩ := h x x1
    obtain ⟨bb1, bb2, bb3, bb4, -, -⟩ := behT (p + 1) (by omega) (by omega)
    have hxy : x = y := by
      refine cell_unique (q := p + 1) hv' (by omega) (by omega) x1 (by rw [Nat.add_sub_cancel]; exact y2) y1 ?_
      rw [← hf]
      rcases x4 with e | e
      · exact Or.inl e.2
      · exact Or.inr e.2
    subst hxy
    refine ⟨by rw [x3, y3, ho], ?_, by rw [x2, y2]⟩
    rcases x4 with e | e <;> rcases y4 with e' | e'
    · rw [e.1, e'.1]
    · have := (nI_eq (by omega) (by omega)).mp (e.2.symm.trans (hf.trans e'.2))
      exact absurd this.symm (beh_ne _ (by omega))
    · have := (nI_eq (by omega) (by omega)).mp (e.2.symm.trans (hf.trans e'.2))
      exact absurd this (beh_ne _ (by omega))
    · rw [e.1, e'.1]
theorem cod4 : ∀ n, n < 5 → ((1 : Int32) <<< (((2 : Int32) * nI n) &&& 31)) = nI (4 ^ n) := by decide +kernel
theorem pow44 {n : Nat} (h : n < 5) : 4 ^ n ≤ 256 := by
  match n, h with
  | 0, _ => decide
  | 1, _ => decide
  | 2, _ => decide
  | 3, _ => decide
  | 4, _ => decide
theorem s_codesOf {n : Nat} (h : n < 5) (I : Mem) : f_X2_codesOf (nI n) I = some (nI (4 ^ n), I) := by
  unfold f_X2_codesOf
  rw [cod4 n h]
theorem s_tried_no {n c : Nat} (hc : c < 256) (h : ¬ vB c) (I : Mem) : f_X2_isTried (nI n) (nI c) I = some (0, I) := by
  unfold f_X2_isTried
  rw [s_last hc, bI_some, s_across (Nat.mod_lt _ (by decide)), bI_some, vB_ac0.mpr h, if_pos (show nI 0 = 0 from rfl)]
theorem s_tried {n c : Nat} (hn : n < 5) (hc : c < 256) (h : vB c) (I : Mem) : ∃ I', f_X2_isTried (nI n) (nI c) I = some (1, I') ∧ SH I' 71 n c ∧ ∀ r, r < 71 ∨ 75 ≤ r → I' r = I r := by
  obtain ⟨I', a1, a2, a3⟩ := s_foldBy 71 hn hc I
  refine ⟨I', ?_, a2, a3⟩
  unfold f_X2_isTried
  rw [s_last hc, bI_some, s_across (Nat.mod_lt _ (by decide)), bI_some, vB_ac.mpr h, if_neg (show ¬ nI 1 = 0 by decide), a1, bV_some]
theorem s_leaves71 {I : Mem} {n c : Nat} (hn : n < 5) (h : SH I 71 n c) : f_X5_leaves 71 I = some (nI (2 ^ n), I) := s_leaves hn (acU_le n c n) h.1 h.2.1
theorem s_markOf {I : Mem} {a n c i : Nat} (hn : n < 5) (h : SH I a n c) (hi : i < 2 ^ n) : f_X5_markOf a (nI i) I = some (mkI n c i, I) := by
  have h16 := pow4 hn
  unfold f_X5_markOf mkI
  rw [ck_t (inb_n (show i < 16 by omega) (by decide)), ck_t (inb_n (show i < 16 by omega) (by decide)), nI_tn (by omega), h.1, (h.2.2.2 i hi).1, (h.2.2.2 i hi).2]
theorem s_triedAlike {I : Mem} {a n c c' : Nat} (hv : vld n c) (hv' : vld n c') (h : SH I 71 n c) (h' : SH I a n c') : (SameP n c c' → f_X2_isTriedAlike_70_v5 a I = some (1, I)) ∧ (¬ SameP n c c' → f_X2_isTriedAlike_70_v5 a I = some (0, I)) := by
  obtain ⟨hn, -, -⟩ := vld_n hv
  have h16 := pow4 hn
  unfold f_X2_isTriedAlike_70_v5
  have key : ∀ (d i f : Nat), i + d = 2 ^ n → d < f → ((∀ j, i ≤ j → j < 2 ^ n → mkI n c j = mkI n c' j) → l_X2_isTriedAlike_70_v5_2 (fun I7 => some ((0 : Int32), I7)) (fun I8 => some ((1 : Int32), I8)) f a (nI i) I = some (1, I)) ∧ (¬ (∀ j, i ≤ j → j < 2 ^ n → mkI n c j = mkI n c' j) → l_X2_isTriedAlike_70_v5_2 (fun I7 => some ((0 : Int32), I7)) (fun I8 => some ((1 : Int32), I8)) f a (nI i) I = some (0, I)) := by
    intro d
    induction d with
    | zero =>
      intro i f hi hf
      obtain ⟨g, rfl⟩ : ∃ g, f = g + 1 := ⟨f - 1, by omega⟩
      rw [u_X2_isTriedAlike_70_v5_2]
      unfold b_X2_isTriedAlike_70_v5_2
      rw [s_leaves71 hn h, bI_some, if_pos (nI_le (by omega) (by omega))]
      exact ⟨fun _ => rfl, fun q => absurd (fun j a b => by omega) q⟩
    | succ d ih =>
      intro i f hi hf
      obtain ⟨g, rfl⟩ : ∃ g, f = g + 1 := ⟨f - 1, by omega⟩
      rw [u_X2_isTriedAlike_70_v5_2]
      unfold b_X2_isTriedAlike_70_v5_2
      rw [s_leaves71 hn h, bI_some, if_neg (nI_ge (by omega) (by omega)), s_markOf hn h (by omega), bI_some, s_markOf hn h' (by omega), bI_some, nI_1]
      have ih' := ih (i + 1) g (by omega) (by omega)
      by_cases he : mkI n c i = mkI n c' i
      · rw [if_pos he]
        refine ⟨fun q => ih'.1 (fun j a b => q j (by omega) b), fun q => ih'.2 (fun q' => q (fun j a b => ?_))⟩
        by_cases hj : j = i
        · rw [hj]; exact he
        · exact q' j (by omega) b
      · rw [if_neg he]
        exact ⟨fun q => absurd (q i (Nat.le_refl _) (by omega)) he, fun _ => rfl⟩
  have k0 := key (2 ^ n) 0 fuel (by omega) (by rw [fuel_v]; omega)
  rw [show (∀ j, 0 ≤ j → j < 2 ^ n → mkI n c j = mkI n c' j) ↔ SameP n c c' from ⟨fun q => (same_marks hv hv').mp (fun i hi => q i (Nat.zero_le _) hi), fun q j _ hj => (same_marks hv hv').mpr q j hj⟩] at k0
  exact k0
/-- how many of d texts from c on are P -/
noncomputable def ctP (P : Nat → Prop) : Nat → Nat → Nat → Nat
  | 0, _, a => a
  | d + 1, c, a => ctP P d (c + 1) (@ite Nat (P c) (Classical.propDecidable (P c)) (a + 1) a)
/-- the first of d texts from c on that is P -/
noncomputable def fvP (P : Nat → Prop) : Nat → Nat → Int32
  | 0, _ => -4
  | d + 1, c => @ite Int32 (P c) (Classical.propDecidable (P c)) (nI c) (fvP P d (c + 1))
theorem ctP_y {P : Nat → Prop} {d c a : Nat} (h : P c) : ctP P (d + 1) c a = ctP P d (c + 1) (a + 1) := by
  show ctP P d (c + 1) (@ite Nat (P c) (Classical.propDecidable (P c)) (a + 1) a) = _
  rw [if_pos h]
theorem ctP_n {P : Nat → Prop} {d c a : Nat} (h : ¬ P c) : ctP P (d + 1) c a = ctP P d (c + 1) a := by
  show ctP P d (c + 1) (@ite Nat (P c) (Classical.propDecidable (P c)) (a + 1) a) = _
  rw [if_neg h]
theorem fvP_y {P : Nat → Prop} {d c : Nat} (h : P c) : fvP P (d + 1) c = nI c := if_pos h
theorem fvP_n {P : Nat → Prop} {d c : Nat} (h : ¬ P c) : fvP P (d + 1) c = fvP P d (c + 1) := if_neg h
theorem s_alikeTo {a n c0 : Nat} (hv0 : vld n c0) (ha : a + 3 ≤ 71) : ∀ (d c k f : Nat) (I : Mem), c + d = 4 ^ n → d < f → SH I a n c0 → ∃ I', l_X2_alikeTo_70_v5_5 (fun (z7 : Int32) I8 => some (z7, I8)) f a (nI n) (nI k) (nI c) I = some (nI (ctP (fun c => vB c ∧ SameP n c c0) d c k), I') ∧ ∀ r, r < 71 ∨ 75 ≤ r → I' r = I r := by
  obtain ⟨hn, hn1, -⟩ := vld_n hv0
  have h256 := pow44 hn
  intro d
  induction d with
  | zero =>
    intro c k f I hc hf hS
    obtain ⟨g, rfl⟩ : ∃ g, f = g + 1 := ⟨f - 1, by omega⟩
    rw [u_X2_alikeTo_70_v5_5]
    unfold b_X2_alikeTo_70_v5_5
    rw [s_codesOf hn, bI_some, if_pos (nI_le (by omega) (by omega))]
    exact ⟨I, rfl, fun _ _ => rfl⟩
  | succ d ih =>
    intro c k f I hc hf hS
    obtain ⟨g, rfl⟩ : ∃ g, f = g + 1 := ⟨f - 1, by omega⟩
    rw [u_X2_alikeTo_70_v5_5]
    unfold b_X2_alikeTo_70_v5_5
    rw [s_codesOf hn, bI_some, if_neg (nI_ge (by omega) (by omega))]
    by_cases hb : vB c
    · obtain ⟨I1, a1, a2, a3⟩ := s_tried hn (show c < 256 by omega) hb I
      have hv : vld n c := ⟨hn1, by omega, by omega, hb⟩
      have hS1 : SH I1 a n c0 := hS.rows (fun i _ _ => a3 i (by omega))
      have hta := s_triedAlike hv hv0 a2 hS1
      rw [a1, bI_some, if10]
      by_cases hs : SameP n c c0
      · rw [hta.1 hs, bI_some, if10, nI_1, nI_1, ctP_y ⟨hb, hs⟩]
        obtain ⟨I', b1, b2⟩ := ih (c + 1) (k + 1) g I1 (by omega) (by omega) hS1
        exact ⟨I', b1, fun r hr => by rw [b2 r hr, a3 r hr]⟩
      · rw [hta.2 hs, bI_some, if00, nI_1, ctP_n (fun q => hs q.2)]
        obtain ⟨I', b1, b2⟩ := ih (c + 1) k g I1 (by omega) (by omega) hS1
        exact ⟨I', b1, fun r hr => by rw [b2 r hr, a3 r hr]⟩
    · rw [s_tried_no (by omega) hb, bI_some, if00, nI_1, ctP_n (fun q => hb q.1)]
      exact ih (c + 1) k g I (by omega) (by omega) hS
/-- text c brings page q to side s, column a, row b -/
def fnd (n q s a b c : Nat) : Prop := vB c ∧ a < 2 ^ acU n c n ∧ b < 2 ^ (n - acU n c n) ∧ ∃ q0, frI n c (b * 2 ^ acU n c n + a) = nI q0 ∧ 1 ≤ q0 ∧ q0 ≤ 2 * 2 ^ n ∧ (if s = 0 then q0 else beh q0) = q
theorem s_firstWith {n q s a b : Nat} (hn : n < 5) (hn1 : 1 ≤ n) (hq : q < 40) (hs : s ≤ 1) (ha : a ≤ 15) (hb : b ≤ 15) : ∀ (d c f : Nat) (I : Mem), c + d = 4 ^ n → d < f → ∃ I', l_X2_firstWith_3 (fun (z9 : Int32) I10 => some (z9, I10)) (fun I11 => some ((-4 : Int32), I11)) f (nI n) (nI q) (nI s) (nI a) (nI b) (nI c) I = some (fvP (fnd n q s a b) d c, I') ∧ ∀ r, r < 71 ∨ 75 ≤ r → I' r = I r := by
  have h256 := pow44 hn
  have h16 := pow4 hn
  intro d
  induction d with
  | zero =>
    intro c f I hc hf
    obtain ⟨g, rfl⟩ : ∃ g, f = g + 1 := ⟨f - 1, by omega⟩
    rw [u_X2_firstWith_3]
    unfold b_X2_firstWith_3
    rw [s_codesOf hn, bI_some, if_pos (nI_le (by omega) (by omega))]
    exact ⟨I, rfl, fun _ _ => rfl⟩
  | succ d ih =>
    intro c f I hc hf
    obtain ⟨g, rfl⟩ : ∃ g, f = g + 1 := ⟨f - 1, by omega⟩
    rw [u_X2_firstWith_3]
    unfold b_X2_firstWith_3
    rw [s_codesOf hn, bI_some, if_neg (nI_ge (by omega) (by omega))]
    by_cases hb' : vB c
    · obtain ⟨I1, a1, a2, a3⟩ := s_tried hn (show c < 256 by omega) hb' I
      have hv : vld n c := ⟨hn1, by omega, by omega, hb'⟩
      have hA := acU_le n c n
      have hcell := s_hasCell hv a2 (nI a) (nI b)
      have hgo : ∃ I', l_X2_firstWith_3 (fun (z9 : Int32) I10 => some (z9, I10)) (fun I11 => some ((-4 : Int32), I11)) g (nI n) (nI q) (nI s) (nI a) (nI b) (nI (c + 1)) I1 = some (fvP (fnd n q s a b) d (c + 1), I') ∧ ∀ r, r < 71 ∨ 75 ≤ r → I' r = I r := by
        obtain ⟨I', b1, b2⟩ := ih (c + 1) g I1 (by omega) (by omega)
        exact ⟨I', b1, fun r hr => by rw [b2 r hr, a3 r hr]⟩
      have e0 : ((2 ^ acU n c n : Nat) : Int) = (2 : Int) ^ acU n c n := by rw [Int.natCast_pow]; rfl
      have e1 : ((2 ^ (n - acU n c n) : Nat) : Int) = (2 : Int) ^ (n - acU n c n) := by rw [Int.natCast_pow]; rfl
      have hinC : inC n c (nI a) (nI b) ↔ (a < 2 ^ acU n c n ∧ b < 2 ^ (n - acU n c n)) := by
        unfold inC
        rw [nI_toInt (by omega), nI_toInt (by omega), ← e0, ← e1]
        omega
      rw [a1, bI_some, if10]
      by_cases hin : a < 2 ^ acU n c n ∧ b < 2 ^ (n - acU n c n)
      · obtain ⟨q0, z1, z2, z3, z4⟩ := G2 hv (cell_lt hA hin.1 hin.2)
        obtain ⟨bb1, bb2, bb3, bb4, -, -⟩ := behT q0 (by omega) z1
        rw [hcell.1 (hinC.mpr hin), bI_some, if10, s_pageOn hv a2 hs hin.1 hin.2 z3 z1 z2, bI_some, nI_1]
        by_cases he : (if s = 0 then q0 else beh q0) = q
        · rw [if_pos (show nI (if s = 0 then q0 else beh q0) = nI q by rw [he]), fvP_y ⟨hb', hin.1, hin.2, q0, z3, z1, z2, he⟩]
          exact ⟨I1, rfl, a3⟩
        · have hbnd : (if s = 0 then q0 else beh q0) < 40 := by
            by_cases h0 : s = 0
            · rw [if_pos h0]; omega
            · rw [if_neg h0]; omega
          rw [if_neg (fun h => he ((nI_eq (by omega) (by omega)).mp h)), fvP_n (fun ⟨_, _, _, q0', y1, y2, y3, y4⟩ => he (by
            have : q0' = q0 := (nI_eq (by omega) (by omega)).mp (y1.symm.trans z3)
            rw [this] at y4
            exact y4))]
          exact hgo
      · rw [hcell.2 (fun h => hin (hinC.mp h)), bI_some, if00, nI_1, fvP_n (fun h => hin ⟨h.2.1, h.2.2.1⟩)]
        exact hgo
    · rw [s_tried_no (by omega) hb', bI_some, if00, nI_1, fvP_n (fun h => hb' h.1)]
      exact ih (c + 1) g I (by omega) (by omega)
