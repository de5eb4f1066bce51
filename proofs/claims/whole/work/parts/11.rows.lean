section JB
variable {α : Type} {G : Gt} {μ : Mt α} {pc : Nat} {ls : List (Option Value)} {st : List Value} {I : Mem} {A B : Option α}
theorem J_icmp_eq {x y : Int32} {off : Int} {tgt : Nat} (hd : decode (mco μ) pc = .ok (.if_icmp .eq off, 3)) (ht : (pc : Int) + off = (tgt : Int)) (kt : J G μ tgt ls st I A) (kf : J G μ (pc + 3) ls st I B) : J G μ pc ls (.int y :: .int x :: st) I (if x = y then A else B) :=
  fun p e s m args below meth c Bq r hF H locs lsm hP hS hl => lv_icmp_eq Bq.1 Bq.2.1 hd ht (fun q => kt p e s m args below meth c Bq r (by rw [if_pos q] at hF; exact hF) H locs lsm hP hS hl) (fun q => kf p e s m args below meth c Bq r (by rw [if_neg q] at hF; exact hF) H locs lsm hP hS hl)
theorem J_if_eq {x : Int32} {off : Int} {tgt : Nat} (hd : decode (mco μ) pc = .ok (.ifCond .eq off, 3)) (ht : (pc : Int) + off = (tgt : Int)) (kt : J G μ tgt ls st I A) (kf : J G μ (pc + 3) ls st I B) : J G μ pc ls (.int x :: st) I (if x = 0 then A else B) :=
  fun p e s m args below meth c Bq r hF H locs lsm hP hS hl => lv_if_eq Bq.1 Bq.2.1 hd ht (fun q => kt p e s m args below meth c Bq r (by rw [if_pos q] at hF; exact hF) H locs lsm hP hS hl) (fun q => kf p e s m args below meth c Bq r (by rw [if_neg q] at hF; exact hF) H locs lsm hP hS hl)
theorem J_icmp_lt {x y : Int32} {off : Int} {tgt : Nat} (hd : decode (mco μ) pc = .ok (.if_icmp .lt off, 3)) (ht : (pc : Int) + off = (tgt : Int)) (kt : J G μ tgt ls st I A) (kf : J G μ (pc + 3) ls st I B) : J G μ pc ls (.int y :: .int x :: st) I (if x < y then A else B) :=
  fun p e s m args below meth c Bq r hF H locs lsm hP hS hl => lv_icmp_lt Bq.1 Bq.2.1 hd ht (fun q => kt p e s m args below meth c Bq r (by rw [if_pos q] at hF; exact hF) H locs lsm hP hS hl) (fun q => kf p e s m args below meth c Bq r (by rw [if_neg q] at hF; exact hF) H locs lsm hP hS hl)
theorem J_if_lt {x : Int32} {off : Int} {tgt : Nat} (hd : decode (mco μ) pc = .ok (.ifCond .lt off, 3)) (ht : (pc : Int) + off = (tgt : Int)) (kt : J G μ tgt ls st I A) (kf : J G μ (pc + 3) ls st I B) : J G μ pc ls (.int x :: st) I (if x < 0 then A else B) :=
  fun p e s m args below meth c Bq r hF H locs lsm hP hS hl => lv_if_lt Bq.1 Bq.2.1 hd ht (fun q => kt p e s m args below meth c Bq r (by rw [if_pos q] at hF; exact hF) H locs lsm hP hS hl) (fun q => kf p e s m args below meth c Bq r (by rw [if_neg q] at hF; exact hF) H locs lsm hP hS hl)
theorem J_icmp_ge {x y : Int32} {off : Int} {tgt : Nat} (hd : decode (mco μ) pc = .ok (.if_icmp .ge off, 3)) (ht : (pc : Int) + off = (tgt : Int)) (kt : J G μ tgt ls st I A) (kf : J G μ (pc + 3) ls st I B) : J G μ pc ls (.int y :: .int x :: st) I (if y ≤ x then A else B) :=
  fun p e s m args below meth c Bq r hF H locs lsm hP hS hl => lv_icmp_ge Bq.1 Bq.2.1 hd ht (fun q => kt p e s m args below meth c Bq r (by rw [if_pos q] at hF; exact hF) H locs lsm hP hS hl) (fun q => kf p e s m args below meth c Bq r (by rw [if_neg q] at hF; exact hF) H locs lsm hP hS hl)
theorem J_if_ge {x : Int32} {off : Int} {tgt : Nat} (hd : decode (mco μ) pc = .ok (.ifCond .ge off, 3)) (ht : (pc : Int) + off = (tgt : Int)) (kt : J G μ tgt ls st I A) (kf : J G μ (pc + 3) ls st I B) : J G μ pc ls (.int x :: st) I (if 0 ≤ x then A else B) :=
  fun p e s m args below meth c Bq r hF H locs lsm hP hS hl => lv_if_ge Bq.1 Bq.2.1 hd ht (fun q => kt p e s m args below meth c Bq r (by rw [if_pos q] at hF; exact hF) H locs lsm hP hS hl) (fun q => kf p e s m args below meth c Bq r (by rw [if_neg q] at hF; exact hF) H locs lsm hP hS hl)
theorem J_icmp_gt {x y : Int32} {off : Int} {tgt : Nat} (hd : decode (mco μ) pc = .ok (.if_icmp .gt off, 3)) (ht : (pc : Int) + off = (tgt : Int)) (kt : J G μ tgt ls st I A) (kf : J G μ (pc + 3) ls st I B) : J G μ pc ls (.int y :: .int x :: st) I (if y < x then A else B) :=
  fun p e s m args below meth c Bq r hF H locs lsm hP hS hl => lv_icmp_gt Bq.1 Bq.2.1 hd ht (fun q => kt p e s m args below meth c Bq r (by rw [if_pos q] at hF; exact hF) H locs lsm hP hS hl) (fun q => kf p e s m args below meth c Bq r (by rw [if_neg q] at hF; exact hF) H locs lsm hP hS hl)
theorem J_if_gt {x : Int32} {off : Int} {tgt : Nat} (hd : decode (mco μ) pc = .ok (.ifCond .gt off, 3)) (ht : (pc : Int) + off = (tgt : Int)) (kt : J G μ tgt ls st I A) (kf : J G μ (pc + 3) ls st I B) : J G μ pc ls (.int x :: st) I (if 0 < x then A else B) :=
  fun p e s m args below meth c Bq r hF H locs lsm hP hS hl => lv_if_gt Bq.1 Bq.2.1 hd ht (fun q => kt p e s m args below meth c Bq r (by rw [if_pos q] at hF; exact hF) H locs lsm hP hS hl) (fun q => kf p e s m args below meth c Bq r (by rw [if_neg q] at hF; exact hF) H locs lsm hP hS hl)
theorem J_icmp_le {x y : Int32} {off : Int} {tgt : Nat} (hd : decode (mco μ) pc = .ok (.if_icmp .le off, 3)) (ht : (pc : Int) + off = (tgt : Int)) (kt : J G μ tgt ls st I A) (kf : J G μ (pc + 3) ls st I B) : J G μ pc ls (.int y :: .int x :: st) I (if x ≤ y then A else B) :=
  fun p e s m args below meth c Bq r hF H locs lsm hP hS hl => lv_icmp_le Bq.1 Bq.2.1 hd ht (fun q => kt p e s m args below meth c Bq r (by rw [if_pos q] at hF; exact hF) H locs lsm hP hS hl) (fun q => kf p e s m args below meth c Bq r (by rw [if_neg q] at hF; exact hF) H locs lsm hP hS hl)
theorem J_if_le {x : Int32} {off : Int} {tgt : Nat} (hd : decode (mco μ) pc = .ok (.ifCond .le off, 3)) (ht : (pc : Int) + off = (tgt : Int)) (kt : J G μ tgt ls st I A) (kf : J G μ (pc + 3) ls st I B) : J G μ pc ls (.int x :: st) I (if x ≤ 0 then A else B) :=
  fun p e s m args below meth c Bq r hF H locs lsm hP hS hl => lv_if_le Bq.1 Bq.2.1 hd ht (fun q => kt p e s m args below meth c Bq r (by rw [if_pos q] at hF; exact hF) H locs lsm hP hS hl) (fun q => kf p e s m args below meth c Bq r (by rw [if_neg q] at hF; exact hF) H locs lsm hP hS hl)
theorem J_icmp_ne {x y : Int32} {off : Int} {tgt : Nat} (hd : decode (mco μ) pc = .ok (.if_icmp .ne off, 3)) (ht : (pc : Int) + off = (tgt : Int)) (kf : J G μ (pc + 3) ls st I A) (kt : J G μ tgt ls st I B) : J G μ pc ls (.int y :: .int x :: st) I (if x = y then A else B) :=
  fun p e s m args below meth c Bq r hF H locs lsm hP hS hl => lv_icmp_ne Bq.1 Bq.2.1 hd ht (fun q => kt p e s m args below meth c Bq r (by rw [if_neg q] at hF; exact hF) H locs lsm hP hS hl) (fun q => kf p e s m args below meth c Bq r (by rw [if_pos q] at hF; exact hF) H locs lsm hP hS hl)
theorem J_if_ne {x : Int32} {off : Int} {tgt : Nat} (hd : decode (mco μ) pc = .ok (.ifCond .ne off, 3)) (ht : (pc : Int) + off = (tgt : Int)) (kf : J G μ (pc + 3) ls st I A) (kt : J G μ tgt ls st I B) : J G μ pc ls (.int x :: st) I (if x = 0 then A else B) :=
  fun p e s m args below meth c Bq r hF H locs lsm hP hS hl => lv_if_ne Bq.1 Bq.2.1 hd ht (fun q => kt p e s m args below meth c Bq r (by rw [if_neg q] at hF; exact hF) H locs lsm hP hS hl) (fun q => kf p e s m args below meth c Bq r (by rw [if_pos q] at hF; exact hF) H locs lsm hP hS hl)
end JB
section JH
variable {α : Type} {G : Gt} {μ : Mt α} {pc : Nat} {ls : List (Option Value)} {st : List Value} {I : Mem} {F : Option α}
/-- id a has tag t -/
def ok (G : Gt) (a t : Nat) : Prop := a < gn G ∧ stag a = t
theorem ok_get {a t : Nat} (h : ok G a t) : (wl G I)[a]? = some (gad G a, cellT (gad G) (gy G) t a (I a)) := by
  rw [wl_get h.1]
  unfold cellOf
  rw [h.2]
theorem ok_obj {a t : Nat} (h : ok G a t) (ht : t < 10) : (wl G I)[a]? = some (gad G a, .inr (t, flds (gad G) t a (I a))) := by
  rw [ok_get h]
  unfold cellT
  rw [if_pos ht]
theorem ok_int {a t : Nat} (h : ok G a t) (ht : ¬ t < 10) (h1 : ¬ t = 10) (h2 : ¬ t = 43) (h3 : ¬ t = 16) (h4 : ¬ t = 17) (h5 : ¬ t = 21) : (wl G I)[a]? = some (gad G a, .inl (gy G 1, slen t, .inl (I a))) := by
  rw [ok_get h]
  unfold cellT
  rw [if_neg ht, if_neg h1, if_neg h2, if_neg h3, if_neg h4, if_neg h5]
theorem ok_set {a t : Nat} (h : ok G a t) (w : Nat → Int32) : (wl G I).set a (gad G a, cellT (gad G) (gy G) t a w) = wl G (upR I a w) := by
  rw [← wl_set w h.1]
  unfold cellOf
  rw [h.2]
theorem J_get {a t k idx : Nat} {C : String} {T : u_T} {N : Nat} (v : Value) (ho : ok G a t) (ht : t < 10) (hc : vwCl[t]? = some (C, T, N)) (hin : ∀ w ∈ u_ws C T N, w ∈ wsG) (hk : k < N) (hl : Cond.fieldLink (mow μ) idx (T k).1 (T k).2.1 (T k).2.2.1 ∈ wsG) (hv : (flds (gad G) t a (I a))[k]? = some (tv G v)) (hd : decode (mco μ) pc = .ok (.getfield idx, 3))
    (kk : J G μ (pc + 3) ls (v :: st) I F) : J G μ pc ls (.ref a :: st) I F :=
  fun p e s m args below meth c B r hF H locs lsm hP hS hl1 => va_get (own := mow μ) B.1 B.2.1 B.2.2.2.2.1 hin B.2.2.2.1 B.2.2.2.2.2.1 hP a (ok_obj ho ht) hc k hk (B.2.2.2.2.1 _ hl) (fun _ h9 => h9) hv hd (kk p e s m args below meth c B r hF H locs lsm hP hS hl1)
theorem J_put {a t k idx : Nat} {C : String} {T : u_T} {N : Nat} {x : Int32} (ho : ok G a t) (ht : t < 10) (hc : vwCl[t]? = some (C, T, N)) (hin : ∀ w ∈ u_ws C T N, w ∈ wsG) (ty0 : Nat → FieldType) (hty : ∀ k, k < N → parseFieldDescriptor (T k).2.2.1 = some (ty0 k)) (hnm : ∀ a, a < N → ∀ b, b < N → a ≠ b → (T a).2.1 ≠ (T b).2.1) (hk : k < N) (hl : Cond.fieldLink (mow μ) idx (T k).1 (T k).2.1 (T k).2.2.1 ∈ wsG) (hfin : (T k).2.2.2 = false) (hde : parseFieldDescriptor (T k).2.2.1 = some .int)
    (hlen : k < (flds (gad G) t a (I a)).length) (hset : (flds (gad G) t a (I a)).set k (.int x) = flds (gad G) t a (upd (I a) k x)) (hd : decode (mco μ) pc = .ok (.putfield idx, 3))
    (kk : J G μ (pc + 3) ls st (stm I a k x) F) : J G μ pc ls (.int x :: .ref a :: st) I F :=
  fun p e s m args below meth c B r hF H locs lsm hP hS hl1 => va_put (own := mow μ) (v := .int x) (ty := .int) B.1 B.2.1 B.2.2.2.2.1 hin ty0 hty hnm B.2.2.2.1 B.2.2.2.2.2.1 hP (B.2.2.2.2.2.2.2.1.D I) hS a (ok_obj ho ht) hc k hk (B.2.2.2.2.1 _ hl) (fun _ h9 => h9) hfin hde rfl rfl hlen hd fun H1 locs1 hP1 _ hS1 => by
    refine kk p e s m args below meth c B r hF H1 locs1 lsm ?_ hS1 hl1
    rw [hset] at hP1
    have e1 : (Sum.inr (t, flds (gad G) t a (upd (I a) k x)) : va_E) = cellT (gad G) (gy G) t a (upd (I a) k x) := by unfold cellT; rw [if_pos ht]
    rw [e1, ok_set ho] at hP1
    exact hP1
theorem J_iald {a t : Nat} {i : Int32} (ho : ok G a t) (ht : ¬ t < 10) (h1 : ¬ t = 10) (h2 : ¬ t = 43) (h3 : ¬ t = 16) (h4 : ¬ t = 17) (h5 : ¬ t = 21) (hin : vp_in i (slen t)) (hd : decode (mco μ) pc = .ok (.iaload, 1)) (kk : J G μ (pc + 1) ls (.int (I a i.toNatClampNeg) :: st) I F) : J G μ pc ls (.int i :: .ref a :: st) I F :=
  fun p e s m args below meth c B r hF H locs lsm hP hS hl1 => va_iald B.1 B.2.1 B.2.2.2.2.2.1 hP a 1 (ok_int ho ht h1 h2 h3 h4 h5) rfl hin hd (kk p e s m args below meth c B r hF H locs lsm hP hS hl1)
theorem J_iast {a t : Nat} {i x : Int32} (ho : ok G a t) (ht : ¬ t < 10) (h1 : ¬ t = 10) (h2 : ¬ t = 43) (h3 : ¬ t = 16) (h4 : ¬ t = 17) (h5 : ¬ t = 21) (hin : vp_in i (slen t)) (hd : decode (mco μ) pc = .ok (.iastore, 1)) (kk : J G μ (pc + 1) ls st (stm I a i.toNatClampNeg x) F) : J G μ pc ls (.int x :: .int i :: .ref a :: st) I F :=
  fun p e s m args below meth c B r hF H locs lsm hP hS hl1 => va_iast B.1 B.2.1 B.2.2.2.2.2.1 hP (B.2.2.2.2.2.2.2.1.D I) hS a 1 (ok_int ho ht h1 h2 h3 h4 h5) rfl hin hd fun H1 locs1 hP1 _ hS1 => by
    refine kk p e s m args below meth c B r hF H1 locs1 lsm ?_ hS1 hl1
    have e1 : (Sum.inl (gy G 1, slen t, .inl (upd (I a) i.toNatClampNeg x)) : va_E) = cellT (gad G) (gy G) t a (upd (I a) i.toNatClampNeg x) := by unfold cellT; rw [if_neg ht, if_neg h1, if_neg h2, if_neg h3, if_neg h4, if_neg h5]
    rw [e1, ok_set ho] at hP1
    exact hP1
theorem J_cald {a : Nat} {i : Int32} (ho : ok G a 10) (hin : vp_in i 200) (hd : decode (mco μ) pc = .ok (.caload, 1)) (kk : J G μ (pc + 1) ls (.int (I a i.toNatClampNeg) :: st) I F) : J G μ pc ls (.int i :: .ref a :: st) I F :=
  fun p e s m args below meth c B r hF H locs lsm hP hS hl1 => va_cald (f := I a) B.1 B.2.1 B.2.2.2.2.2.1 hP a 0 (ok_get ho) rfl hin hd (kk p e s m args below meth c B r hF H locs lsm hP hS hl1)
theorem J_cast {a : Nat} {i x : Int32} (ho : ok G a 10) (hin : vp_in i 200) (hd : decode (mco μ) pc = .ok (.castore, 1)) (kk : J G μ (pc + 1) ls st (stm I a i.toNatClampNeg (vp_nar .char x)) F) : J G μ pc ls (.int x :: .int i :: .ref a :: st) I F :=
  fun p e s m args below meth c B r hF H locs lsm hP hS hl1 => va_cast (f := I a) B.1 B.2.1 B.2.2.2.2.2.1 hP (B.2.2.2.2.2.2.2.1.D I) hS a 0 (ok_get ho) rfl hin hd fun H1 locs1 hP1 _ hS1 => by
    refine kk p e s m args below meth c B r hF H1 locs1 lsm ?_ hS1 hl1
    have e1 := ok_set (G := G) (I := I) ho (upd (I a) i.toNatClampNeg (vp_nar .char x))
    exact e1 ▸ hP1
theorem J_zald {a : Nat} {i : Int32} (ho : ok G a 43) (hin : vp_in i 440) (hd : decode (mco μ) pc = .ok (.baload, 1)) (kk : J G μ (pc + 1) ls (.int (I a i.toNatClampNeg) :: st) I F) : J G μ pc ls (.int i :: .ref a :: st) I F :=
  fun p e s m args below meth c B r hF H locs lsm hP hS hl1 => va_zald (f := I a) B.1 B.2.1 B.2.2.2.2.2.1 hP a 2 (ok_get ho) rfl hin hd (kk p e s m args below meth c B r hF H locs lsm hP hS hl1)
theorem J_zast {a : Nat} {i x : Int32} (ho : ok G a 43) (hin : vp_in i 440) (hd : decode (mco μ) pc = .ok (.bastore, 1)) (kk : J G μ (pc + 1) ls st (stm I a i.toNatClampNeg (vp_nar .boolean x)) F) : J G μ pc ls (.int x :: .int i :: .ref a :: st) I F :=
  fun p e s m args below meth c B r hF H locs lsm hP hS hl1 => va_zast (f := I a) B.1 B.2.1 B.2.2.2.2.2.1 hP (B.2.2.2.2.2.2.2.1.D I) hS a 2 (ok_get ho) rfl hin hd fun H1 locs1 hP1 _ hS1 => by
    refine kk p e s m args below meth c B r hF H1 locs1 lsm ?_ hS1 hl1
    have e1 := ok_set (G := G) (I := I) ho (upd (I a) i.toNatClampNeg (vp_nar .boolean x))
    exact e1 ▸ hP1
/-- kept[i]: the id stands in the memory as an int -/
theorem J_kald {a : Nat} {i : Int32} (ho : ok G a 16) (hin : vp_in i 6) (hd : decode (mco μ) pc = .ok (.aaload, 1)) (kk : J G μ (pc + 1) ls (.ref (I a i.toNatClampNeg).toNatClampNeg :: st) I F) : J G μ pc ls (.int i :: .ref a :: st) I F :=
  fun p e s m args below meth c B r hF H locs lsm hP hS hl1 => va_aldq (C := RX7) (f := fun k => some (gad G (I a k).toNatClampNeg)) B.1 B.2.1 B.2.2.2.2.2.1 hP a 3 (ok_get ho) rfl hin hd (kk p e s m args below meth c B r hF H locs lsm hP hS hl1)
/-- sheets[i] -/
theorem J_sald {a : Nat} {i : Int32} (ho : ok G a 17) (hin : vp_in i 4) (hd : decode (mco μ) pc = .ok (.aaload, 1)) (kk : J G μ (pc + 1) ls (.ref (54 + 4 * i.toNatClampNeg) :: st) I F) : J G μ pc ls (.int i :: .ref a :: st) I F :=
  fun p e s m args below meth c B r hF H locs lsm hP hS hl1 => va_aldq (C := RX5) (f := fun k => some (gad G (54 + 4 * k))) B.1 B.2.1 B.2.2.2.2.2.1 hP a 4 (ok_get ho) rfl hin hd (kk p e s m args below meth c B r hF H locs lsm hP hS hl1)
theorem J_alen {a t : Nat} (ho : ok G a t) (ht : ¬ t < 10) (h1 : ¬ t = 10) (h2 : ¬ t = 43) (h3 : ¬ t = 16) (h4 : ¬ t = 17) (h5 : ¬ t = 21) (hd : decode (mco μ) pc = .ok (.arraylength, 1)) (kk : J G μ (pc + 1) ls (.int (Int32.ofNat (slen t)) :: st) I F) : J G μ pc ls (.ref a :: st) I F :=
  fun p e s m args below meth c B r hF H locs lsm hP hS hl1 => va_alen B.1 B.2.1 B.2.2.2.2.2.1 hP a 1 (ok_int ho ht h1 h2 h3 h4 h5) (ty := .int) rfl rfl hd (kk p e s m args below meth c B r hF H locs lsm hP hS hl1)
end JH
