/-! THE LAW'S BEGINNING: what the premises give; both constructors -/
theorem tq1 {w : Cond} (i : Nat) (h : tables_1_1[i]? = some w) : w ∈ lw_tbl := List.mem_append_right _ (List.mem_append_left _ (List.mem_of_getElem? h))
theorem tq2 {w : Cond} (i : Nat) (h : tables_1_2[i]? = some w) : w ∈ lw_tbl := List.mem_append_right _ (List.mem_append_right _ (List.mem_append_left _ (List.mem_of_getElem? h)))
theorem tq3 {w : Cond} (i : Nat) (h : tables_1_3[i]? = some w) : w ∈ lw_tbl := List.mem_append_right _ (List.mem_append_right _ (List.mem_append_right _ (List.mem_append_left _ (List.mem_of_getElem? h))))
theorem tq4 {w : Cond} (i : Nat) (h : tables_1_4[i]? = some w) : w ∈ lw_tbl := List.mem_append_right _ (List.mem_append_right _ (List.mem_append_right _ (List.mem_append_right _ (List.mem_append_left _ (List.mem_of_getElem? h)))))
/-- an array of arrays of ints -/
theorem over_arr {args : Array Value} {s : State} (h : (Cond.arrayOver (.array .int)).before args s = true) : ∃ comp c k, s.vm.findClass "[I" = some comp ∧ s.vm.classes[c]? = some k ∧ k.kind = .array comp (.array .int) ∧ s.vm.findClass "[[I" = some c := by
  have e1 : FieldType.toString (.array .int) = "[I" := by decide +kernel
  have e2 : "[" ++ FieldType.toString (.array .int) = "[[I" := by decide +kernel
  simp only [Cond.before, Cond.holds, Cond.value, beq_iff_eq] at h
  rw [e1] at h
  cases hc : s.vm.findClass "[I" with
  | none => simp [hc] at h
  | some comp =>
    simp only [hc, Option.bind_some, Option.bind_eq_some_iff, Option.map_eq_some_iff] at h
    obtain ⟨c, hi, k, hk, hb⟩ := h
    obtain ⟨hlt, hp, -⟩ := Array.findIdx?_eq_some_iff_getElem.mp hi
    have hkk : s.vm.classes[c] = k := (Array.getElem?_eq_some_iff.mp hk).2
    rw [hkk] at hp
    cases hkind : k.kind with
    | array component ty =>
      rw [hkind] at hb hp
      simp at hb hp
      refine ⟨comp, c, k, rfl, hk, by rw [hkind, hp, hb.1], ?_⟩
      exact hb.2
    | _ => rw [hkind] at hb; simp at hb
section ST
variable {b : Nat} {s : State}
theorem st_class (hts : ∀ w ∈ lw_tbl, w.before #[Value.ref b] s = true) : ∃ D : va_G, ∀ (k : Nat) (q : vw_C), vwCl[k]? = some q → u_Kn s q.1 q.2.1 q.2.2 (D.1 k) (D.2 k) := by
  obtain ⟨c0, i0, h0⟩ := u_known (C := RX0) (T := TX0) (N := 6) (n := 6) hts inX0 (hts (.instantiable RX0 6) (wsG_in _ wk_94))
  obtain ⟨c1, i1, h1⟩ := u_known (C := RX1) (T := TX1) (N := 2) (n := 2) hts inX1 (hts (.instantiable RX1 2) (wsG_in _ wk_73))
  obtain ⟨c2, i2, h2⟩ := u_known (C := RX2) (T := TX2) (N := 2) (n := 2) hts inX2 (hts (.instantiable RX2 2) (wsG_in _ wk_82))
  obtain ⟨c3, i3, h3⟩ := u_known (C := RX3) (T := TX3) (N := 8) (n := 8) hts inX3 (hts (.instantiable RX3 8) (wsG_in _ wk_17))
  obtain ⟨c4, i4, h4⟩ := u_known (C := RX4) (T := TX4) (N := 3) (n := 3) hts inX4 (hts (.instantiable RX4 3) (wsG_in _ wk_88))
  obtain ⟨c5, i5, h5⟩ := u_known (C := RX5) (T := TX5) (N := 6) (n := 6) hts inX5 (hts (.instantiable RX5 6) (wsG_in _ wk_24))
  obtain ⟨c6, i6, h6⟩ := u_known (C := RX6) (T := TX6) (N := 2) (n := 2) hts inX6 (hts (.instantiable RX6 2) (wsG_in _ wk_64))
  obtain ⟨c7, i7, h7⟩ := u_known (C := RX7) (T := TX7) (N := 6) (n := 6) hts inX7 (hts (.instantiable RX7 6) (wsG_in _ wk_42))
  obtain ⟨c8, i8, h8⟩ := u_known (C := RX8) (T := TX8) (N := 8) (n := 8) hts inX8 (hts (.instantiable RX8 8) (tq1 18 (by decide +kernel)))
  obtain ⟨c9, i9, h9⟩ := u_known (C := RX9) (T := TX9) (N := 24) (n := 24) hts inX9 (hts (.instantiable RX9 24) (tq4 75 (by decide +kernel)))
  refine ⟨(fun k => if k = 0 then c0 else if k = 1 then c1 else if k = 2 then c2 else if k = 3 then c3 else if k = 4 then c4 else if k = 5 then c5 else if k = 6 then c6 else if k = 7 then c7 else if k = 8 then c8 else c9, fun k => if k = 0 then i0 else if k = 1 then i1 else if k = 2 then i2 else if k = 3 then i3 else if k = 4 then i4 else if k = 5 then i5 else if k = 6 then i6 else if k = 7 then i7 else if k = 8 then i8 else i9), ?_⟩
  intro k q hq
  match k, hq with
  | 0, hq => cases hq; exact h0
  | 1, hq => cases hq; exact h1
  | 2, hq => cases hq; exact h2
  | 3, hq => cases hq; exact h3
  | 4, hq => cases hq; exact h4
  | 5, hq => cases hq; exact h5
  | 6, hq => cases hq; exact h6
  | 7, hq => cases hq; exact h7
  | 8, hq => cases hq; exact h8
  | 9, hq => cases hq; exact h9
  | k + 10, hq => simp [vwCl] at hq
theorem st_arr (hts : ∀ w ∈ lw_tbl, w.before #[Value.ref b] s = true) : ∃ y : Nat → ClassId, K5 y s ∧ ∀ (k : Nat) (q : ClassId × FieldType), (ytys y)[k]? = some q → ArrOfT s q.1 q.2 ∧ va_RA s q.1 q.2 := by
  obtain ⟨cC, kC, oC, f1, f2, f3⟩ := Cond.arrayClass_spec (args := #[Value.ref b]) (first := s) (o := none) (s := s) (idx := []) (type := .char) (hts _ (wsG_in _ wk_1))
  obtain ⟨cI, kI, oI, g1, g2, g3⟩ := Cond.arrayClass_spec (args := #[Value.ref b]) (first := s) (o := none) (s := s) (idx := []) (type := .int) (hts _ (wsG_in _ wk_4))
  obtain ⟨cZ, kZ, oZ, z1, z2, z3⟩ := Cond.arrayClass_spec (args := #[Value.ref b]) (first := s) (o := none) (s := s) (idx := []) (type := .boolean) (hts _ (wsG_in _ wk_60))
  obtain ⟨oT, cT, kT, t1, -, t3, t4, t5⟩ := Cond.arrayOver_spec (args := #[Value.ref b]) (first := s) (o := none) (s := s) (idx := []) (n := RX7) (hts _ (tq1 87 (by decide +kernel)))
  obtain ⟨oS, cS, kS, s1, -, s3, s4, s5⟩ := Cond.arrayOver_spec (args := #[Value.ref b]) (first := s) (o := none) (s := s) (idx := []) (n := RX5) (hts _ (tq1 98 (by decide +kernel)))
  obtain ⟨oA, cA, kA, a1, a3, a4, a5⟩ := over_arr (hts _ (tq1 179 (by decide +kernel)))
  have eI : "[" ++ FieldType.toString .int = "[I" := by decide +kernel
  rw [eI] at g1
  have hOA : oA = cI := Option.some.inj (a1.symm.trans g1)
  subst hOA
  refine ⟨fun k => if k = 0 then cC else if k = 1 then oA else if k = 2 then cZ else if k = 3 then cT else if k = 4 then cS else cA, ⟨kA, a3, a4⟩, ?_⟩
  intro k q hq
  match k, hq with
  | 0, hq => cases hq; exact ⟨fun n z => ⟨(fun k h => by cases h), kC, f2, oC, f3⟩, f1⟩
  | 1, hq => cases hq; exact ⟨fun n z => ⟨(fun k h => by cases h), kI, g2, oI, g3⟩, g1⟩
  | 2, hq => cases hq; exact ⟨fun n z => ⟨(fun k h => by cases h), kZ, z2, oZ, z3⟩, z1⟩
  | 3, hq => cases hq; exact ⟨fun n z => ⟨(fun k h => by cases h), kT, t3, oT, t4⟩, kT, oT, t3, t4, t1, t5⟩
  | 4, hq => cases hq; exact ⟨fun n z => ⟨(fun k h => by cases h), kS, s3, oS, s4⟩, kS, oS, s3, s4, s1, s5⟩
  | 5, hq => cases hq; exact ⟨fun n z => ⟨(fun k h => by cases h), kA, a3, oA, a4⟩, a5⟩
  | k + 6, hq => simp [ytys] at hq
theorem st_nx (hts : ∀ w ∈ lw_tbl, w.before #[Value.ref b] s = true) {y : Nat → ClassId} (h5 : K5 y s) : Nx y s :=
  ⟨h5, ⟨va_AO.of (hts _ (tq1 87 (by decide +kernel))), va_AO.of (hts _ (tq1 98 (by decide +kernel)))⟩,
    ⟨va_Nw.of rfl (hts _ (tq1 27 (by decide +kernel))), va_Nw.of rfl (hts _ (tq1 42 (by decide +kernel))), va_Nw.of rfl (hts _ (tq1 100 (by decide +kernel))), va_Nw.of rfl (hts _ (tq1 159 (by decide +kernel))), va_Nw.of rfl (hts _ (tq1 174 (by decide +kernel))), va_Nw.of rfl (hts _ (tq1 195 (by decide +kernel)))⟩,
    va_Nw.of rfl (hts _ (tq1 88 (by decide +kernel))), va_Nw.of rfl (hts _ (tq1 106 (by decide +kernel))), va_Nw.of rfl (hts _ (tq1 164 (by decide +kernel)))⟩
def stTm (i : Nat) : Term := match i with
  | 0 => .string RX6 34
  | 1 => .string RX6 76
  | _ => .string RX8 61
/-- a static array of three ints -/
theorem st_tab (hts : ∀ w ∈ lw_tbl, w.before #[Value.ref b] s = true) {nm : String} {j : Nat} (hl : (Cond.laysStatic RX8 nm "[I").before #[Value.ref b] s = true) (ha : (Cond.arrayOf (.static RX8 nm "[I") .int).before #[Value.ref b] s = true) (hn : (Cond.eq (.length (.static RX8 nm "[I")) (.int 3)).before #[Value.ref b] s = true) (h0 : (Cond.eq (.elem (.static RX8 nm "[I") (.int 0)) (.int (exv j 0))).before #[Value.ref b] s = true) (h1 : (Cond.eq (.elem (.static RX8 nm "[I") (.int 1)) (.int (exv j 1))).before #[Value.ref b] s = true) (h2 : (Cond.eq (.elem (.static RX8 nm "[I") (.int 2)) (.int (exv j 2))).before #[Value.ref b] s = true) : ∃ t : Nat, va_Z RX8 nm "[I" (.ref t) (fun q => s.heap.size ≤ q) s s.heap ∧ va_T .int t 3 (fun i => .int (exv j i)) (fun q => s.heap.size ≤ q) s s.heap := by
  have hA : ∀ a : Nat, a < s.heap.size → ¬ (fun q => s.heap.size ≤ q) a := fun a h q => absurd h (Nat.not_lt.mpr q)
  obtain ⟨t, e1, e2⟩ := va_Tof (N := 3) (f := fun i => .int (exv j i)) (A := fun q => s.heap.size ≤ q) (by decide) ha (va_eqt hn) (fun i hi => by
    match i, hi with
    | 0, _ => exact va_eqt h0
    | 1, _ => exact va_eqt h1
    | 2, _ => exact va_eqt h2) hA
  exact ⟨t, va_Zof hl (hts _ (wsG_in _ wl_1)) e1 hA, e2⟩
theorem st_ex (hts : ∀ w ∈ lw_tbl, w.before #[Value.ref b] s = true) (hgv : (Jvm.Cond.and given_1 narrow_1).before #[Value.ref b] s = true) (l : Launch) (D : va_G) (y : Nat → ClassId) : ∃ ext : Nat → Nat, Ex (Gm l D y ext s.heap.size 89) s := by
  have hs := flat_of_before _ hgv
  have hA : ∀ a : Nat, a < s.heap.size → ¬ (fun q => s.heap.size ≤ q) a := fun a h q => absurd h (Nat.not_lt.mpr q)
  obtain ⟨t0, p0, q0⟩ := st_tab (nm := "NUMBER_LEAST") (j := 0) hts (hts _ (tq2 154 (by decide +kernel))) (hs _ (by decide +kernel)) (hs _ (by decide +kernel)) (hs _ (by decide +kernel)) (hs _ (by decide +kernel)) (hs _ (by decide +kernel))
  obtain ⟨t1, p1, q1⟩ := st_tab (nm := "NUMBER_MOST") (j := 1) hts (hts _ (tq2 156 (by decide +kernel))) (hs _ (by decide +kernel)) (hs _ (by decide +kernel)) (hs _ (by decide +kernel)) (hs _ (by decide +kernel)) (hs _ (by decide +kernel))
  obtain ⟨t2, p2, q2⟩ := st_tab (nm := "NUMBER_FIRST") (j := 2) hts (hts _ (tq2 49 (by decide +kernel))) (hs _ (by decide +kernel)) (hs _ (by decide +kernel)) (hs _ (by decide +kernel)) (hs _ (by decide +kernel)) (hs _ (by decide +kernel))
  have hcs : va_Z RJ0 "COMPACT_STRINGS" "Z" (.int 1) (fun q => s.heap.size ≤ q) s s.heap := va_Zof (hts _ (tq1 233 (by decide +kernel))) (hts (.initialized RJ0) (tq1 10 (by decide +kernel))) (va_eqi (hs _ (by decide +kernel))) hA
  have hsf : va_Zq RJ3 "SIOOBE_FORMATTER" "Ljava/util/function/BiFunction;" (fun q => s.heap.size ≤ q) s s.heap := va_Zqof (hts _ (tq2 9 (by decide +kernel))) (hts (.initialized RJ3) (tq1 12 (by decide +kernel))) (hs _ (by decide +kernel)) hA
  obtain ⟨adK, adV, hS, hT⟩ := vk_Sof (args := #[Value.ref b]) (s := s) (N := 3) (tm := stTm) (len := sln) (byt := sby) (A := fun q => s.heap.size ≤ q) (fun i hi => by
      match i, hi with
      | 0, _ => decide
      | 1, _ => decide
      | 2, _ => decide) (fun i hi => by
      match i, hi with
      | 0, _ => exact hs _ (by decide +kernel)
      | 1, _ => exact hs _ (by decide +kernel)
      | 2, _ => exact hs _ (by decide +kernel)) (fun i hi => by
      match i, hi with
      | 0, _ => exact hs _ (by decide +kernel)
      | 1, _ => exact hs _ (by decide +kernel)
      | 2, _ => exact hs _ (by decide +kernel)) (fun i hi => by
      match i, hi with
      | 0, _ => exact hs _ (by decide +kernel)
      | 1, _ => exact hs _ (by decide +kernel)
      | 2, _ => exact hs _ (by decide +kernel)) (fun i hi => by
      match i, hi with
      | 0, _ => exact hs _ (by decide +kernel)
      | 1, _ => exact hs _ (by decide +kernel)
      | 2, _ => exact hs _ (by decide +kernel)) (fun i hi j hj => by
      match i, hi with
      | 0, _ =>
        match j, hj with
        | 0, _ => exact hs _ (by decide +kernel)
        | 1, _ => exact hs _ (by decide +kernel)
        | 2, _ => exact hs _ (by decide +kernel)
        | j + 3, hj => exact absurd (show j + 3 < 3 from hj) (by omega)
      | 1, _ =>
        match j, hj with
        | 0, _ => exact hs _ (by decide +kernel)
        | 1, _ => exact hs _ (by decide +kernel)
        | 2, _ => exact hs _ (by decide +kernel)
        | 3, _ => exact hs _ (by decide +kernel)
        | j + 4, hj => exact absurd (show j + 4 < 4 from hj) (by omega)
      | 2, _ =>
        match j, hj with
        | 0, _ => exact hs _ (by decide +kernel)
        | 1, _ => exact hs _ (by decide +kernel)
        | 2, _ => exact hs _ (by decide +kernel)
        | 3, _ => exact hs _ (by decide +kernel)
        | 4, _ => exact hs _ (by decide +kernel)
        | 5, _ => exact hs _ (by decide +kernel)
        | 6, _ => exact hs _ (by decide +kernel)
        | 7, _ => exact hs _ (by decide +kernel)
        | 8, _ => exact hs _ (by decide +kernel)
        | 9, _ => exact hs _ (by decide +kernel)
        | 10, _ => exact hs _ (by decide +kernel)
        | 11, _ => exact hs _ (by decide +kernel)
        | 12, _ => exact hs _ (by decide +kernel)
        | 13, _ => exact hs _ (by decide +kernel)
        | 14, _ => exact hs _ (by decide +kernel)
        | 15, _ => exact hs _ (by decide +kernel)
        | 16, _ => exact hs _ (by decide +kernel)
        | 17, _ => exact hs _ (by decide +kernel)
        | 18, _ => exact hs _ (by decide +kernel)
        | 19, _ => exact hs _ (by decide +kernel)
        | 20, _ => exact hs _ (by decide +kernel)
        | 21, _ => exact hs _ (by decide +kernel)
        | j + 22, hj => exact absurd (show j + 22 < 22 from hj) (by omega)
      ) (fun i j hi hj hij => by
      match i, j, hi, hj with
      | 0, 0, _, _ => exact absurd rfl hij
      | 1, 1, _, _ => exact absurd rfl hij
      | 2, 2, _, _ => exact absurd rfl hij
      | 0, 1, _, _ => exact Or.inr (hs _ (by decide +kernel))
      | 1, 0, _, _ => exact Or.inl (hs _ (by decide +kernel))
      | 0, 2, _, _ => exact Or.inr (hs _ (by decide +kernel))
      | 2, 0, _, _ => exact Or.inl (hs _ (by decide +kernel))
      | 1, 2, _, _ => exact Or.inr (hs _ (by decide +kernel))
      | 2, 1, _, _ => exact Or.inl (hs _ (by decide +kernel))) hA
  have h152 : (Term.string RX8 152).eval #[Value.ref b] s none [] s = some (.ref (adK 1)) := va_eqR (t := .string RX6 76) (hs _ (by decide +kernel)) (hT 1 (by decide))
  obtain ⟨t3, hz⟩ : ∃ t3 : Nat, va_Z RJ3 "SIOOBE_FORMATTER" "Ljava/util/function/BiFunction;" .null (fun q => s.heap.size ≤ q) s s.heap ∨ va_Z RJ3 "SIOOBE_FORMATTER" "Ljava/util/function/BiFunction;" (.ref t3) (fun q => s.heap.size ≤ q) s s.heap := by
    rcases hsf with h | ⟨t, h⟩
    · exact ⟨0, Or.inl h⟩
    · exact ⟨t, Or.inr h⟩
  refine ⟨fun i => if i = 1000 then t0 else if i = 1001 then t1 else if i = 1002 then t2 else if i = 1030 then t3 else if i < 1020 then adK (i - 1010) else adV (i - 1020), ⟨p0, p1, p2⟩, fun j hj => ?_, ⟨hcs, hz⟩, ⟨fun i hi => ?_, fun i j hi hj h => ?_⟩, ⟨vk_R.of (hts _ (tq2 148 (by decide +kernel))) (hT 0 (by decide)), vk_R.of (hts _ (tq2 66 (by decide +kernel))) (hT 1 (by decide)), vk_R.of (hts _ (tq3 131 (by decide +kernel))) h152, vk_R.of (hts _ (tq1 223 (by decide +kernel))) (hT 2 (by decide))⟩, va_Nw.of rfl (hts _ (tq2 48 (by decide +kernel))), va_Nw.of rfl (hts _ (tq2 153 (by decide +kernel))), va_Nw.of rfl (hts _ (tq2 155 (by decide +kernel)))⟩
  · match j, hj with
    | 0, _ => exact q0
    | 1, _ => exact q1
    | 2, _ => exact q2
  · match i, hi with
    | 0, _ => exact hS.1 0 (by decide)
    | 1, _ => exact hS.1 1 (by decide)
    | 2, _ => exact hS.1 2 (by decide)
  · refine hS.2 i j hi hj ?_
    match i, j, hi, hj, h with
    | 0, 0, _, _, h => exact h
    | 0, 1, _, _, h => exact h
    | 0, 2, _, _, h => exact h
    | 1, 0, _, _, h => exact h
    | 1, 1, _, _, h => exact h
    | 1, 2, _, _, h => exact h
    | 2, 0, _, _, h => exact h
    | 2, 1, _, _, h => exact h
    | 2, 2, _, _, h => exact h
end ST
theorem wq_0 : Cond.classLink R_law 7 RX8 ∈ wsG := tb1 17 (by decide +kernel) (by decide +kernel)
theorem wq_1 : Cond.instantiable RX8 8 ∈ wsG := tb1 18 (by decide +kernel) (by decide +kernel)
theorem wq_2 : Cond.methodLink R_law 9 yX8_init ∈ wsG := tb1 19 (by decide +kernel) (by decide +kernel)
theorem wq_3 : Cond.instanceMethod yX8_init ∈ wsG := tb1 20 (by decide +kernel) (by decide +kernel)
theorem wq_4 : Cond.code yX8_init cX8_init 2 none ∈ wsG := tb1 21 (by decide +kernel) (by decide +kernel)
theorem wq_5 : Cond.classLink R_law 10 RX9 ∈ wsG := tb4 74 (by decide +kernel) (by decide +kernel)
theorem wq_6 : Cond.instantiable RX9 24 ∈ wsG := tb4 75 (by decide +kernel) (by decide +kernel)
theorem wq_7 : Cond.methodLink R_law 12 yX9_init ∈ wsG := tb4 76 (by decide +kernel) (by decide +kernel)
theorem wq_8 : Cond.instanceMethod yX9_init ∈ wsG := tb4 77 (by decide +kernel) (by decide +kernel)
theorem wq_9 : Cond.code yX9_init cX9_init 1 none ∈ wsG := tb4 78 (by decide +kernel) (by decide +kernel)
abbrev nul9 : List Value := [.int 0, .null, .null, .null, .int 0, .null, .int 0, .null, .int 0, .null, .null, .int 0, .int 0, .null, .null, .null, .int 0, .null, .null, .null, .int 0, .int 0, .int 0, .null]
set_option maxHeartbeats 4000000 in
theorem whole_start {p : Program} {e : Env} {s : State} {m : MethodId} {below : List Frame} {meth : Method} {c : Code} (l : Launch) (hflags : l.flags = flags0) {b L : Nat} {xs : Nat → Int32} (hL : L ≤ 3072) (C0 : lw_At p s m meth c b L xs) : W p l e room_1 s m #[Value.ref b] below meth c s.heap [] 0 0 (lw_Z below #[Value.ref b] s) (entryFrame m ([Value.ref b] : List Value).toArray 4) := by
  obtain ⟨hx, hb, hr, hml, hown, hts, hX, hbl, hlocks, hgv⟩ := id C0
  have htsG : ∀ w ∈ wsG, w.before #[Value.ref b] s = true := fun w hw => hts w (wsG_in w hw)
  have hA : ∀ q : Nat, s.heap.size ≤ q → (fun q : Nat => s.heap.size ≤ q) q := fun _ h => h
  obtain ⟨D, hKc⟩ := st_class hts
  obtain ⟨y, h5, hKa⟩ := st_arr hts
  have hK : va_K D vwCl (ytys y) s := ⟨hKc, hKa⟩
  have hN : Nx y s := st_nx hts h5
  obtain ⟨ext, hE⟩ := st_ex hts hgv l D y
  obtain ⟨I1, hf, hC1⟩ := s_init
  have hS : va_S (fun q : Nat => s.heap.size ≤ q) s.heap s.heap [] := va_S.rf
  have hP : va_P D vwCl [] s.heap := fun k q h => by simp at h
  have hD : va_D (fun q : Nat => s.heap.size ≤ q) ([] : va_W) := ⟨fun i j p q h => by simp at h, fun k q h => by simp at h⟩
  have hl := lv_entry ([.ref b]) (n := 4) (Nat.le_of_ble_eq_true rfl)
  rw [lg_entry_eq]
  generalize (lg_sl ([.ref b]) ++ List.replicate (4 - (lg_sl ([.ref b])).length) Slot.unset).toArray = ls at hl ⊢
  have hl : lv_has ls 4 [(0, .ref b)] := hl
  refine va_new (ci := 8) (fs := nul8) (C := RX8) (T := TX8) (N := 8) (own := R_law) hx hb htsG ingX8 tyX8 tyX8_ok hown (htsG _ wq_0) (htsG _ wq_1) (htsG _ wl_1) hK hP hD hS hA rfl dfX8 (Nat.le_of_ble_eq_true rfl) (Nat.le_of_ble_eq_true rfl) dl_0 (fun q0 H hP hD hS => ?_)
  have hP : va_P D vwCl [(q0, .inr (8, nul8))] H := hP
  have hD : va_D (fun q : Nat => s.heap.size ≤ q) ([(q0, .inr (8, nul8))] : va_W) := hD
  have hq0 : s.heap.size ≤ q0 := hD.2 0 _ rfl
  refine lv_dup hx hb dl_3 rfl ?_
  refine va_callv (va_runI (As := []) (rest := [.ref q0]) (nL := 4) ⟨hx, hb, hml, hown, htsG⟩ (k_init l D y ext s.heap.size q0 hf) ⟨callB_of 0 htsG (fun w hw => by
    rcases List.mem_cons.mp hw with rfl | hw
    · exact wsG_good _ wq_4
    · exact wsG_good _ hw) rfl rfl rfl (htsG _ wl_1) (htsG _ wq_2) ⟨by decide, by decide, by decide +kernel⟩ ⟨Nat.le_of_ble_eq_true rfl, Nat.le_of_ble_eq_true rfl⟩, rfl, htsG _ wq_3⟩ ⟨fpP_blind, fun U hU hW => ⟨rfl, ⟨hq0, by rw [hU]; exact hS.1⟩, by rw [hU]; exact hP, va_K.moved hW.alike hK, Nx.warm hW hN, Ex_warm hW (fun a h1 h2 => by rw [hU]; exact hS.2.1 a h1 h2) hE⟩⟩ rfl rfl hl.1 rfl (lv_room (Nat.le_of_ble_eq_true rfl)) dl_4 ⟨Nat.le_of_ble_eq_true rfl, Nat.le_of_ble_eq_true rfl⟩) hS (fun _ _ h => h) (fun _ h => h) (fun ad t H1 locs1 ht hvm hpost hB hz hk hS1 => ?_)
  obtain ⟨hP1, hD1⟩ := hB
  rw [ht] at hP1
  refine lv_astore_n (lv' := [(1, .ref q0), (0, .ref b)]) hx hb dl_7 rfl hl (by decide) rfl (fun ls hl => ?_)
  refine va_new (ci := 9) (fs := nul9) (C := RX9) (T := TX9) (N := 24) (own := R_law) hx hb htsG ingX9 tyX9 tyX9_ok hown (htsG _ wq_5) (htsG _ wq_6) (htsG _ wl_6) hK hP1 hD1 hS1 hA rfl dfX9 (Nat.le_of_ble_eq_true rfl) (Nat.le_of_ble_eq_true rfl) dl_8 (fun q1 H2 hP2 hD2 hS2 => ?_)
  refine lv_dup hx hb dl_11 rfl ?_
  have hF := K_wF (A := fun q : Nat => s.heap.size ≤ q) (wr := wl (Gm l D y ad s.heap.size 89) I1) hD2 hS2 hA
  have hPc : va_P D vwCl [(q1, .inr (9, nul9))] H2 := fun k z hk => hP2 ((wl (Gm l D y ad s.heap.size 89) I1).length + k) z (by rw [List.getElem?_append_right (Nat.le_add_right _ _), Nat.add_sub_cancel_left]; exact hk)
  refine va_callv (va_runI (As := []) (rest := [.ref q1]) (nL := 4) ⟨hx, hb, hml, hown, htsG⟩ (k_modelW l D y q1 H2.size) ⟨callB_of 0 htsG (fun w hw => by
    rcases List.mem_cons.mp hw with rfl | hw
    · exact wsG_good _ wq_9
    · exact wsG_good _ hw) rfl rfl rfl (htsG _ wl_6) (htsG _ wq_7) ⟨by decide, by decide, by decide +kernel⟩ ⟨Nat.le_of_ble_eq_true rfl, Nat.le_of_ble_eq_true rfl⟩, rfl, htsG _ wq_8⟩ ⟨KC_blind, fun U hU hW => ⟨rfl, by rw [hU], by rw [hU]; exact hPc, va_K.moved hW.alike hK, Nx.warm hW hN⟩⟩ rfl rfl hl.1 rfl (lv_room (Nat.le_of_ble_eq_true rfl)) dl_12 ⟨Nat.le_of_ble_eq_true rfl, Nat.le_of_ble_eq_true rfl⟩) hS2 (fun q' _ h => hF q' h) hF (fun v t2 H3 locs3 ht2 hvm2 hpost2 hB2 hz2 hk2 hS3 => ?_)
  obtain ⟨hP3, hD3⟩ := hB2
  rw [ht2] at hP3
  obtain ⟨hP4, hD4⟩ := va_join' hP2 hD2 hk2 hF hP3 hD3
  refine lv_astore_n (lv' := [(2, .ref q1), (1, .ref q0), (0, .ref b)]) hx hb dl_15 rfl hl (by decide) rfl (fun ls hl => ?_)
  refine lv_iconst (v := 0) hx hb dl_16 (by decide) ?_
  refine lv_istore_n (lv' := [(3, .int 0), (2, .ref q1), (1, .ref q0), (0, .ref b)]) hx hb dl_17 rfl hl (by decide) rfl (fun ls hl => ?_)
  refine W.widen (k := 600000) (n := 7302250) (Nat.le_of_ble_eq_true rfl) (Nat.le_of_ble_eq_true rfl) ?_
  have hLC : LC (Gm l D y (adj ad v) s.heap.size 104) p s m meth c b L xs := ⟨C0, hK, Ex_ad (fun i hi => (adj_hi hi).trans (hpost.2 i hi)) hE, wj_ok hD4, rfl, rfl, hL⟩
  refine law_loop hLC (L + 1) 0 0 (jn I1) (by omega) (by omega) rfl (ok0 hC1) H3 _ ls (wj_P (kept0 hC1) hP4) hS3 ?_
  have hl := lv_sub hl [3, 2, 1, 0] rfl
  show lv_has ls 4 [(0, .ref b), (1, .ref (adj ad v 0)), (2, .ref (adj ad v 89)), (3, .int 0)]
  rw [show adj ad v 0 = q0 from hpost.1, show adj ad v 89 = q1 from hpost2]
  exact hl
