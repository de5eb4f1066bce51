/-! KINDS: unlike ones of the class; the reference's trials -/
def frst (n c : Nat) : Prop := vB c ∧ ∀ c', c' < c → vB c' → ¬ SameP n c' c
/-- marks kept of m texts, one of each kind of those below c -/
def KU (I : Mem) (n c m : Nat) : Prop := ∃ rep : Nat → Nat, (∀ s, s < m → rep s < c ∧ vB (rep s) ∧ ∀ i, i < 2 ^ n → I 75 (s * 16 + i) = mkI n (rep s) i) ∧ ∀ c', c' < c → vB c' → ∃ s, s < m ∧ SameP n (rep s) c'
theorem s_keepMarks {I : Mem} {n c m : Nat} (hn : n < 5) (h : SH I 71 n c) (hm : m < 128) : f_X2_keepMarks (nI m) I = some (fio I 75 (m * 16) (mkI n c) (2 ^ n)) := by
  have h16 := pow4 hn
  unfold f_X2_keepMarks
  refine fio_loop (fun f x M => l_X2_keepMarks_2 (fun I6 => some I6) f (nI m) x M) (fun M => some M) 75 (m * 16) (2 ^ n) (mkI n c) I ?_ ?_ fuel (by rw [fuel_v]; omega)
  · intro f i hi
    show l_X2_keepMarks_2 _ (f + 1) (nI m) (nI i) _ = l_X2_keepMarks_2 _ f (nI m) (nI (i + 1)) _
    have hS : SH (fio I 75 (m * 16) (mkI n c) i) 71 n c := h.rows (fun r _ _ => fio_row (by omega))
    rw [u_X2_keepMarks_2]
    unfold b_X2_keepMarks_2
    rw [s_leaves71 hn hS, bI_some, if_neg (nI_ge hi (by omega)), s_markOf hn hS hi, bI_some, show nI m * 16 = nI (m * 16) from nI_mul m 16, nI_add, ck_t (inb_n (show m * 16 + i < 2048 by omega) (by decide)), nI_tn (by omega), nI_1]
  · intro f
    show l_X2_keepMarks_2 _ (f + 1) (nI m) (nI (2 ^ n)) _ = _
    have hS : SH (fio I 75 (m * 16) (mkI n c) (2 ^ n)) 71 n c := h.rows (fun r _ _ => fio_row (by omega))
    rw [u_X2_keepMarks_2]
    unfold b_X2_keepMarks_2
    rw [s_leaves71 hn hS, bI_some, if_pos (nI_le (Nat.le_refl _) (by omega))]
theorem s_sameMarks {I : Mem} {n c s m : Nat} (hn : n < 5) (h : SH I 71 n c) (hs : s < 128) (hm : m < 128) : ((∀ i, i < 2 ^ n → I 75 (s * 16 + i) = I 75 (m * 16 + i)) → f_X2_haveSameMarks (nI s) (nI m) I = some (1, I)) ∧ (¬ (∀ i, i < 2 ^ n → I 75 (s * 16 + i) = I 75 (m * 16 + i)) → f_X2_haveSameMarks (nI s) (nI m) I = some (0, I)) := by
  have h16 := pow4 hn
  unfold f_X2_haveSameMarks
  have key : ∀ (d i f : Nat), i + d = 2 ^ n → d < f → ((∀ j, i ≤ j → j < 2 ^ n → I 75 (s * 16 + j) = I 75 (m * 16 + j)) → l_X2_haveSameMarks_2 (fun I5 => some ((0 : Int32), I5)) (fun I6 => some ((1 : Int32), I6)) f (nI s) (nI m) (nI i) I = some (1, I)) ∧ (¬ (∀ j, i ≤ j → j < 2 ^ n → I 75 (s * 16 + j) = I 75 (m * 16 + j)) → l_X2_haveSameMarks_2 (fun I5 => some ((0 : Int32), I5)) (fun I6 => some ((1 : Int32), I6)) f (nI s) (nI m) (nI i) I = some (0, I)) := by
    intro d
    induction d with
    | zero =>
      intro i f hi hf
      obtain ⟨g, rfl⟩ : ∃ g, f = g + 1 := ⟨f - 1, by omega⟩
      rw [u_X2_haveSameMarks_2]
      unfold b_X2_haveSameMarks_2
      rw [s_leaves71 hn h, bI_some, if_pos (nI_le (by omega) (by omega))]
      exact ⟨fun _ => rfl, fun q => absurd (fun j a b => by omega) q⟩
    | succ d ih =>
      intro i f hi hf
      obtain ⟨g, rfl⟩ : ∃ g, f = g + 1 := ⟨f - 1, by omega⟩
      rw [u_X2_haveSameMarks_2]
      unfold b_X2_haveSameMarks_2
      rw [s_leaves71 hn h, bI_some, if_neg (nI_ge (by omega) (by omega)), show nI s * 16 = nI (s * 16) from nI_mul s 16, show nI m * 16 = nI (m * 16) from nI_mul m 16, nI_add, nI_add, ck_t (inb_n (show s * 16 + i < 2048 by omega) (by decide)), ck_t (inb_n (show m * 16 + i < 2048 by omega) (by decide)), nI_tn (by omega), nI_tn (by omega), nI_1]
      have ih' := ih (i + 1) g (by omega) (by omega)
      by_cases he : I 75 (s * 16 + i) = I 75 (m * 16 + i)
      · rw [if_pos he]
        refine ⟨fun q => ih'.1 (fun j a b => q j (by omega) b), fun q => ih'.2 (fun q' => q (fun j a b => ?_))⟩
        by_cases hj : j = i
        · rw [hj]; exact he
        · exact q' j (by omega) b
      · rw [if_neg he]
        exact ⟨fun q => absurd (q i (Nat.le_refl _) (by omega)) he, fun _ => rfl⟩
  have k0 := key (2 ^ n) 0 fuel (by omega) (by rw [fuel_v]; omega)
  exact ⟨fun q => k0.1 (fun j _ hj => q j hj), fun q => k0.2 (fun q' => q (fun j hj => q' j (Nat.zero_le _) hj))⟩
theorem s_keptBefore {I : Mem} {n c m : Nat} (hn : n < 5) (h : SH I 71 n c) (hm : m < 128) : ((∃ s, s < m ∧ ∀ i, i < 2 ^ n → I 75 (s * 16 + i) = I 75 (m * 16 + i)) → f_X2_isKeptBefore (nI m) I = some (1, I)) ∧ (¬ (∃ s, s < m ∧ ∀ i, i < 2 ^ n → I 75 (s * 16 + i) = I 75 (m * 16 + i)) → f_X2_isKeptBefore (nI m) I = some (0, I)) := by
  unfold f_X2_isKeptBefore
  have key : ∀ (d s f : Nat), s + d = m → d < f → ((∃ s', s ≤ s' ∧ s' < m ∧ ∀ i, i < 2 ^ n → I 75 (s' * 16 + i) = I 75 (m * 16 + i)) → l_X2_isKeptBefore_2 (fun I3 => some ((1 : Int32), I3)) (fun I4 => some ((0 : Int32), I4)) f (nI m) (nI s) I = some (1, I)) ∧ (¬ (∃ s', s ≤ s' ∧ s' < m ∧ ∀ i, i < 2 ^ n → I 75 (s' * 16 + i) = I 75 (m * 16 + i)) → l_X2_isKeptBefore_2 (fun I3 => some ((1 : Int32), I3)) (fun I4 => some ((0 : Int32), I4)) f (nI m) (nI s) I = some (0, I)) := by
    intro d
    induction d with
    | zero =>
      intro s f hs hf
      obtain ⟨g, rfl⟩ : ∃ g, f = g + 1 := ⟨f - 1, by omega⟩
      rw [u_X2_isKeptBefore_2]
      unfold b_X2_isKeptBefore_2
      rw [if_pos (nI_le (by omega) (by omega))]
      exact ⟨fun ⟨s', a, b, _⟩ => by omega, fun _ => rfl⟩
    | succ d ih =>
      intro s f hs hf
      obtain ⟨g, rfl⟩ : ∃ g, f = g + 1 := ⟨f - 1, by omega⟩
      rw [u_X2_isKeptBefore_2]
      unfold b_X2_isKeptBefore_2
      rw [if_neg (nI_ge (by omega) (by omega)), nI_1]
      have hsm := s_sameMarks hn h (show s < 128 by omega) hm
      have ih' := ih (s + 1) g (by omega) (by omega)
      by_cases he : ∀ i, i < 2 ^ n → I 75 (s * 16 + i) = I 75 (m * 16 + i)
      · rw [hsm.1 he, bI_some, if10]
        exact ⟨fun _ => rfl, fun q => absurd ⟨s, Nat.le_refl _, by omega, he⟩ q⟩
      · rw [hsm.2 he, bI_some, if00]
        refine ⟨fun ⟨s', a, b, e⟩ => ih'.1 ⟨s', ?_, b, e⟩, fun q => ih'.2 (fun ⟨s', a, b, e⟩ => q ⟨s', by omega, b, e⟩)⟩
        have : s' ≠ s := fun q => he (by rw [← q]; exact e)
        omega
  have k0 := key m 0 fuel (by omega) (by rw [fuel_v]; omega)
  exact ⟨fun ⟨s, a, b⟩ => k0.1 ⟨s, Nat.zero_le _, a, b⟩, fun q => k0.2 (fun ⟨s, _, a, b⟩ => q ⟨s, a, b⟩)⟩
theorem vc_step {c m : Nat} (hb : vB c) (hm : m ≤ (c + 2) / 4 + (c + 1) / 4) : m + 1 ≤ (c + 1 + 2) / 4 + (c + 1 + 1) / 4 := by
  unfold vB at hb
  omega
theorem s_unlikeOnes {n : Nat} (hn : n < 5) (hn1 : 1 ≤ n) : ∀ (d c m f : Nat) (I : Mem), c + d = 4 ^ n → d < f → KU I n c m → m ≤ (c + 2) / 4 + (c + 1) / 4 → ∃ I', l_X2_unlikeOnes_4 (fun (z8 : Int32) I9 => some (z8, I9)) f (nI n) (nI m) (nI c) I = some (nI (ctP (frst n) d c m), I') ∧ ∀ r, r < 71 ∨ 76 ≤ r → I' r = I r := by
  have h256 := pow44 hn
  have h16 := pow4 hn
  intro d
  induction d with
  | zero =>
    intro c m f I hc hf hK hm
    obtain ⟨g, rfl⟩ : ∃ g, f = g + 1 := ⟨f - 1, by omega⟩
    rw [u_X2_unlikeOnes_4]
    unfold b_X2_unlikeOnes_4
    rw [s_codesOf hn, bI_some, if_pos (nI_le (by omega) (by omega))]
    exact ⟨I, rfl, fun _ _ => rfl⟩
  | succ d ih =>
    intro c m f I hc hf hK hm
    obtain ⟨g, rfl⟩ : ∃ g, f = g + 1 := ⟨f - 1, by omega⟩
    rw [u_X2_unlikeOnes_4]
    unfold b_X2_unlikeOnes_4
    rw [s_codesOf hn, bI_some, if_neg (nI_ge (by omega) (by omega))]
    by_cases h128 : 128 ≤ m
    · rw [if_pos (show (128 : Int32) ≤ nI m from nI_le (a := 128) h128 (by omega))]
      have hc5 : c = 255 := by omega
      have hd : d = 0 := by omega
      subst hd
      rw [ctP_n (fun q => by
        have := q.1
        unfold vB at this
        omega)]
      exact ⟨I, rfl, fun _ _ => rfl⟩
    · rw [if_neg (show ¬ (128 : Int32) ≤ nI m from nI_ge (b := 128) (by omega) (by decide))]
      by_cases hb : vB c
      · obtain ⟨I1, a1, a2, a3⟩ := s_tried hn (show c < 256 by omega) hb I
        have hv : vld n c := ⟨hn1, by omega, by omega, hb⟩
        rw [a1, bI_some, if10, s_keepMarks hn a2 (by omega), bV_some]
        generalize hM : fio I1 75 (m * 16) (mkI n c) (2 ^ n) = M
        have hMr : ∀ r, r < 71 ∨ 76 ≤ r → M r = I r := fun r hr => by rw [← hM, fio_row (by omega), a3 r (by omega)]
        have hM75 : ∀ j, j < m * 16 → M 75 j = I 75 j := fun j hj => by rw [← hM, fio_out (by omega), a3 75 (by decide)]
        have hMm : ∀ i, i < 2 ^ n → M 75 (m * 16 + i) = mkI n c i := fun i hi => by rw [← hM, fio_in hi]
        have hSM : SH M 71 n c := a2.rows (fun r _ _ => by rw [← hM, fio_row (by omega)])
        obtain ⟨rep, k1, k2⟩ := hK
        have hrep : ∀ s, s < m → vld n (rep s) := fun s hs => by
          obtain ⟨r1, r2, -⟩ := k1 s hs
          exact ⟨hn1, by omega, by omega, r2⟩
        have hMs : ∀ s, s < m → ∀ i, i < 2 ^ n → M 75 (s * 16 + i) = mkI n (rep s) i := fun s hs i hi => by
          rw [hM75 _ (by omega)]
          exact (k1 s hs).2.2 i hi
        have hkb := s_keptBefore hn hSM (show m < 128 by omega)
        have hiff : (∃ s, s < m ∧ ∀ i, i < 2 ^ n → M 75 (s * 16 + i) = M 75 (m * 16 + i)) ↔ ∃ s, s < m ∧ SameP n (rep s) c := by
          constructor
          · rintro ⟨s, hs, h⟩
            exact ⟨s, hs, (same_marks (hrep s hs) hv).mp (fun i hi => by rw [← hMs s hs i hi, ← hMm i hi]; exact h i hi)⟩
          · rintro ⟨s, hs, h⟩
            exact ⟨s, hs, fun i hi => by rw [hMs s hs i hi, hMm i hi]; exact (same_marks (hrep s hs) hv).mpr h i hi⟩
        rw [hiff] at hkb
        by_cases hex : ∃ s, s < m ∧ SameP n (rep s) c
        · rw [hkb.1 hex, bI_some, if10, nI_1, ctP_n (fun q => by
            obtain ⟨s, hs, h⟩ := hex
            obtain ⟨r1, r2, -⟩ := k1 s hs
            exact q.2 _ r1 r2 h)]
          obtain ⟨I', b1, b2⟩ := ih (c + 1) m g M (by omega) (by omega) ⟨rep, fun s hs => by
            obtain ⟨r1, r2, r3⟩ := k1 s hs
            exact ⟨by omega, r2, hMs s hs⟩, fun c' h1 h2 => by
            by_cases e : c' = c
            · rw [e]; exact hex
            · exact k2 c' (by omega) h2⟩ (by omega)
          exact ⟨I', b1, fun r hr => by rw [b2 r hr, hMr r hr]⟩
        · rw [hkb.2 hex, bI_some, if00, nI_1, nI_1, ctP_y (P := frst n) ⟨hb, fun c' h1 h2 h3 => by
            obtain ⟨s, hs, h⟩ := k2 c' h1 h2
            exact hex ⟨s, hs, h.trans h3⟩⟩]
          have hvc := vc_step hb hm
          obtain ⟨I', b1, b2⟩ := ih (c + 1) (m + 1) g M (by omega) (by omega) ⟨fun s => if s = m then c else rep s, fun s hs => by
            show (if s = m then c else rep s) < c + 1 ∧ vB (if s = m then c else rep s) ∧ ∀ i, i < 2 ^ n → M 75 (s * 16 + i) = mkI n (if s = m then c else rep s) i
            by_cases e : s = m
            · rw [if_pos e, e]
              exact ⟨by omega, hb, hMm⟩
            · rw [if_neg e]
              obtain ⟨r1, r2, r3⟩ := k1 s (by omega)
              exact ⟨by omega, r2, hMs s (by omega)⟩, fun c' h1 h2 => by
            by_cases e : c' = c
            · exact ⟨m, by omega, by
              show SameP n (if m = m then c else rep m) c'
              rw [if_pos rfl, e]; exact SameP.refl n c⟩
            · obtain ⟨s, hs, h⟩ := k2 c' (by omega) h2
              exact ⟨s, by omega, by
                show SameP n (if s = m then c else rep s) c'
                rw [if_neg (by omega)]; exact h⟩⟩ hvc
          exact ⟨I', b1, fun r hr => by rw [b2 r hr, hMr r hr]⟩
      · rw [s_tried_no (by omega) hb, bI_some, if00, nI_1, ctP_n (fun q => hb q.1)]
        obtain ⟨rep, k1, k2⟩ := hK
        exact ih (c + 1) m g I (by omega) (by omega) ⟨rep, fun s hs => by
          obtain ⟨r1, r2, r3⟩ := k1 s hs
          exact ⟨by omega, r2, r3⟩, fun c' h1 h2 => k2 c' (by
          have : c' ≠ c := fun e => hb (by rw [← e]; exact h2)
          omega) h2⟩ (by omega)
/-! the reference -/
theorem s_letterOf {f : Nat} (h : f < 4) (I : Mem) : f_X9_letterOf (nI f) I = some (nI (letN f), I) := by
  match f, h with
  | 0, _ => rfl
  | 1, _ => rfl
  | 2, _ => rfl
  | 3, _ => rfl
def MK (I J : Mem) : Prop := MF I J ∧ J 100 = I 100
theorem MK.trans {I J K : Mem} (h : MK I J) (g : MK J K) : MK I K := ⟨h.1.trans g.1, by rw [g.2, h.2]⟩
theorem MK.refl (I : Mem) : MK I I := ⟨MF.refl I, rfl⟩
theorem s_isText {n c : Nat} (hn : n < 5) (hn1 : 1 ≤ n) (hc : c < 256) (I : Mem) : ∃ J, f_X9_isText (nI n) (nI c) I = some (nI (acF (c % 4)), J) ∧ FM J n c ∧ MK I J := by
  unfold f_X9_isText
  have key := fill_loop (fun f x M => l_X9_isText_7 (fun (z4 : Int32) I5 => ck (inb (z4 - (1 : Int32)) 4) <| bI (f_X9_isSide (I5 94 (tn (z4 - (1 : Int32)))) I5) fun r8 I7 => ck (r8 == 0 || r8 == 1) <| some (r8, I7)) f (nI n) (nI c) x M) (fun I5 => ck (inb (nI n - (1 : Int32)) 4) <| bI (f_X9_isSide (I5 94 (tn (nI n - (1 : Int32)))) I5) fun r8 I7 => ck (r8 == 0 || r8 == 1) <| some (r8, I7)) 94 n (fun i => nI (letN (fig n c i))) (stm I 89 8 (nI n)) ?_ ?_ fuel (by rw [fuel_v]; omega)
  · generalize hJ : fil (stm I 89 8 (nI n)) 94 (fun i => nI (letN (fig n c i))) n = J at key
    have h94 : ∀ i, i < n → J 94 i = nI (letN (fig n c i)) := fun i hi => by rw [← hJ, fil_lt hi]
    have hl : fig n c (n - 1) = c % 4 := by
      unfold fig
      rw [show n - 1 - (n - 1) = 0 by omega, Nat.pow_zero, Nat.div_one]
    have hac := acF_le (c % 4)
    refine ⟨J, ?_, ⟨by rw [← hJ, fil_row (by decide), stm_at], h94⟩, ⟨⟨fun r hr => by rw [← hJ, fil_row (by omega), stm_row (by omega)], by rw [← hJ, fil_row (by decide), stm_ne (by decide)], by rw [← hJ, fil_row (by decide), stm_ne (by decide)], by rw [← hJ, fil_row (by decide), stm_row (by decide)], by rw [← hJ, fil_row (by decide), stm_row (by decide)], by rw [← hJ, fil_row (by decide), stm_row (by decide)]⟩, by rw [← hJ, fil_row (by decide), stm_row (by decide)]⟩⟩
    have key' := key
    rw [show nI 0 = (0 : Int32) from rfl] at key'
    refine key'.trans ?_
    rw [show nI n - 1 = nI (n - 1) from nI_sub (b := 1) hn1 (by omega), ck_t (inb_n (show n - 1 < 4 by omega) (by decide)), nI_tn (by omega), h94 _ (by omega), hl, s_side (Nat.mod_lt _ (by decide)), bI_some]
    rw [ck_t (by
      rcases (show acF (c % 4) = 0 ∨ acF (c % 4) = 1 by omega) with e | e <;> rw [e] <;> decide)]
  · intro f i hi
    show l_X9_isText_7 _ (f + 1) (nI n) (nI c) (nI i) _ = l_X9_isText_7 _ f (nI n) (nI c) (nI (i + 1)) _
    rw [u_X9_isText_7]
    unfold b_X9_isText_7
    rw [if_neg (nI_ge hi (by omega)), figT n hn i hi c hc, s_letterOf (fig_lt n c i), bI_some, ck_t (inb_n (show i < 4 by omega) (by decide)), nI_tn (by omega), nI_1]
  · intro f
    show l_X9_isText_7 _ (f + 1) (nI n) (nI c) (nI n) _ = _
    rw [u_X9_isText_7]
    unfold b_X9_isText_7
    rw [if_pos (nI_le (Nat.le_refl _) (by omega))]
theorem s_try9 {n c : Nat} (hn : n < 5) (hn1 : 1 ≤ n) (hc : c < 4 ^ n) (h : vB c) (I : Mem) : ∃ J1 J, f_X9_isText (nI n) (nI c) I = some (1, J1) ∧ f_X9_foldAll J1 = some J ∧ PM J n c ∧ MK I J := by
  have h256 := pow44 hn
  obtain ⟨J1, a1, a2, a3⟩ := s_isText hn hn1 (show c < 256 by omega) I
  have hv : vld n c := ⟨hn1, by omega, hc, h⟩
  obtain ⟨J, b1, b2, b3, b4⟩ := s_foldAll hv J1 a2
  rw [vB_ac.mpr h] at a1
  refine ⟨J1, J, a1, b1, b2, a3.trans ⟨⟨fun r hr => b3 r (by omega) (by omega) (by omega) (by omega) (by omega) (by omega), b4 0 (by decide) (by decide) (by decide), b4 4 (by decide) (by decide) (by decide), b3 90 (by decide) (by decide) (by decide) (by decide) (by decide) (by decide), b3 91 (by decide) (by decide) (by decide) (by decide) (by decide) (by decide), b3 92 (by decide) (by decide) (by decide) (by decide) (by decide) (by decide)⟩, b3 100 (by decide) (by decide) (by decide) (by decide) (by decide) (by decide)⟩⟩
theorem s_try9_no {n c : Nat} (hn : n < 5) (hn1 : 1 ≤ n) (hc : c < 4 ^ n) (h : ¬ vB c) (I : Mem) : ∃ J1, f_X9_isText (nI n) (nI c) I = some (0, J1) ∧ MK I J1 := by
  have h256 := pow44 hn
  obtain ⟨J1, a1, a2, a3⟩ := s_isText hn hn1 (show c < 256 by omega) I
  rw [vB_ac0.mpr h] at a1
  exact ⟨J1, a1, a3⟩
/-- the reference knows the kind of text c -/
def KN (I : Mem) (n c : Nat) : Prop := (∀ p, p < 2 * 2 ^ n → I 100 p = kmI n c p) ∧ I 100 32 = nI (2 ^ acU n c n)
theorem KN.same {I J : Mem} {n c : Nat} (h : KN I n c) (e : J 100 = I 100) : KN J n c := by
  unfold KN
  rw [e]
  exact h
theorem s_knows {I : Mem} {n c : Nat} (hn : n < 5) (h : PM I n c) : ∃ J, f_X9_knows (nI n) I = some J ∧ KN J n c ∧ MF I J := by
  have h32 := pow32 hn
  unfold f_X9_knows
  have key := fill_loop (fun f x M => l_X9_knows_13 (fun I5 => some I5) f (nI n) x M) (fun I5 => some I5) 100 (2 * 2 ^ n) (kmI n c) (stm I 100 32 (I 89 16)) ?_ ?_ fuel (by rw [fuel_v]; omega)
  · generalize hJ : fil (stm I 100 32 (I 89 16)) 100 (kmI n c) (2 * 2 ^ n) = J at key
    have hr : ∀ r, r ≠ 100 → J r = I r := fun r hr => by rw [← hJ, fil_row hr, stm_row hr]
    refine ⟨J, key, ⟨fun p hp => by rw [← hJ, fil_lt hp], by rw [← hJ, fil_ge h32, stm_at, h.1]⟩, ⟨fun r h => hr r (by omega), by rw [hr 89 (by decide)], by rw [hr 89 (by decide)], hr 90 (by decide), hr 91 (by decide), hr 92 (by decide)⟩⟩
  · intro f p hp
    show l_X9_knows_13 _ (f + 1) (nI n) (nI p) _ = l_X9_knows_13 _ f (nI n) (nI (p + 1)) _
    obtain ⟨e7, e8, e9⟩ := h.2 p hp
    rw [u_X9_knows_13]
    unfold b_X9_knows_13
    rw [twoT n hn, if_neg (nI_ge hp (by omega)), ck_t (inb_n (show p < 32 by omega) (by decide)), ck_t (inb_n (show p < 32 by omega) (by decide)), ck_t (inb_n (show p < 32 by omega) (by decide)), ck_t (inb_n (show p < 33 by omega) (by decide)), nI_tn (by omega), fil_row (by decide), fil_row (by decide), fil_row (by decide), stm_row (by decide), stm_row (by decide), stm_row (by decide), e7, e8, e9, nI_1]
    rfl
  · intro f
    show l_X9_knows_13 _ (f + 1) (nI n) (nI (2 * 2 ^ n)) _ = _
    rw [u_X9_knows_13]
    unfold b_X9_knows_13
    rw [twoT n hn, if_pos (nI_le (Nat.le_refl _) (by omega))]
theorem s_isKnown {I : Mem} {n c c0 : Nat} (hv : vld n c) (hv0 : vld n c0) (h : PM I n c) (hK : KN I n c0) : (SameP n c0 c → f_X9_isKnown (nI n) I = some (1, I)) ∧ (¬ SameP n c0 c → f_X9_isKnown (nI n) I = some (0, I)) := by
  obtain ⟨hn, -, -⟩ := vld_n hv
  have h32 := pow32 hn
  have hz : ∀ (K : Int32 → Mem → Option (Int32 × Mem)) (d p f : Nat), p + d = 2 * 2 ^ n → d < f → l_X9_isKnown_22 K f (nI n) 0 (nI p) I = K 0 I := by
    intro K d
    induction d with
    | zero =>
      intro p f hp hf
      obtain ⟨g, rfl⟩ : ∃ g, f = g + 1 := ⟨f - 1, by omega⟩
      rw [u_X9_isKnown_22]
      unfold b_X9_isKnown_22
      rw [twoT n hn, if_pos (nI_le (by omega) (by omega))]
    | succ d ih =>
      intro p f hp hf
      obtain ⟨g, rfl⟩ : ∃ g, f = g + 1 := ⟨f - 1, by omega⟩
      rw [u_X9_isKnown_22]
      unfold b_X9_isKnown_22
      rw [twoT n hn, if_neg (nI_ge (by omega) (by omega)), if00, nI_1]
      exact ih (p + 1) g (by omega) (by omega)
  have ho : ∀ (K : Int32 → Mem → Option (Int32 × Mem)) (d p f : Nat), p + d = 2 * 2 ^ n → d < f → ((∀ p', p ≤ p' → p' < 2 * 2 ^ n → kmI n c0 p' = kmI n c p') → l_X9_isKnown_22 K f (nI n) 1 (nI p) I = K 1 I) ∧ (¬ (∀ p', p ≤ p' → p' < 2 * 2 ^ n → kmI n c0 p' = kmI n c p') → l_X9_isKnown_22 K f (nI n) 1 (nI p) I = K 0 I) := by
    intro K d
    induction d with
    | zero =>
      intro p f hp hf
      obtain ⟨g, rfl⟩ : ∃ g, f = g + 1 := ⟨f - 1, by omega⟩
      rw [u_X9_isKnown_22]
      unfold b_X9_isKnown_22
      rw [twoT n hn, if_pos (nI_le (by omega) (by omega))]
      exact ⟨fun _ => rfl, fun q => absurd (fun p' a b => by omega) q⟩
    | succ d ih =>
      intro p f hp hf
      obtain ⟨g, rfl⟩ : ∃ g, f = g + 1 := ⟨f - 1, by omega⟩
      obtain ⟨e7, e8, e9⟩ := h.2 p (by omega)
      rw [u_X9_isKnown_22]
      unfold b_X9_isKnown_22
      rw [twoT n hn, if_neg (nI_ge (by omega) (by omega)), if10, ck_t (inb_n (show p < 33 by omega) (by decide)), ck_t (inb_n (show p < 32 by omega) (by decide)), ck_t (inb_n (show p < 32 by omega) (by decide)), ck_t (inb_n (show p < 32 by omega) (by decide)), nI_tn (by omega), hK.1 p (by omega), e7, e8, e9, nI_1]
      show ((∀ p', p ≤ p' → p' < 2 * 2 ^ n → kmI n c0 p' = kmI n c p') → (if kmI n c0 p = kmI n c p then _ else _) = _) ∧ (¬ (∀ p', p ≤ p' → p' < 2 * 2 ^ n → kmI n c0 p' = kmI n c p') → (if kmI n c0 p = kmI n c p then _ else _) = _)
      have ih' := ih (p + 1) g (by omega) (by omega)
      by_cases he : kmI n c0 p = kmI n c p
      · rw [if_pos he]
        refine ⟨fun q => ih'.1 (fun j a b => q j (by omega) b), fun q => ih'.2 (fun q' => q (fun j a b => ?_))⟩
        by_cases hj : j = p
        · rw [hj]; exact he
        · exact q' j (by omega) b
      · rw [if_neg he]
        exact ⟨fun q => absurd (q p (Nat.le_refl _) (by omega)) he, fun _ => hz K d (p + 1) g (by omega) (by omega)⟩
  unfold f_X9_isKnown
  rw [hK.2, h.1]
  have hA := acU_le n c n
  have hA0 := acU_le n c0 n
  have hp := pow4 (show acU n c n < 5 by omega)
  have hp0 := pow4 (show acU n c0 n < 5 by omega)
  by_cases hac : acU n c0 n = acU n c n
  · rw [if_pos (by rw [hac])]
    have h0 := ho (fun (z5 : Int32) I6 => ck (z5 == 0 || z5 == 1) <| some (z5, I6)) (2 * 2 ^ n) 0 fuel (by omega) (by rw [fuel_v]; omega)
    constructor
    · intro hs
      refine (h0.1 (fun p' _ hp' => ((km_same hv0 hv).mpr hs).2 p' hp')).trans ?_
      exact ck_t (by decide)
    · intro hs
      refine (h0.2 (fun q => hs ((km_same hv0 hv).mp ⟨hac, fun p hp => q p (Nat.zero_le _) hp⟩))).trans ?_
      exact ck_t (by decide)
  · rw [if_neg (fun q => hac (by
      have h1 := (nI_eq (by omega) (by omega)).mp q
      rcases Nat.lt_trichotomy (acU n c0 n) (acU n c n) with g | g | g
      · have := Nat.pow_lt_pow_right (a := 2) (by decide) g
        omega
      · exact g
      · have := Nat.pow_lt_pow_right (a := 2) (by decide) g
        omega))]
    constructor
    · intro hs
      exact absurd hs.1 hac
    · intro _
      refine (hz (fun (z8 : Int32) I9 => ck (z8 == 0 || z8 == 1) <| some (z8, I9)) (2 * 2 ^ n) 0 fuel (by omega) (by rw [fuel_v]; omega)).trans ?_
      exact ck_t (by decide)
