/-! ROWS for constructors: the world is a list of cells, new ones come at its end -/
def ytys (y : Nat → ClassId) : List (ClassId × FieldType) := [(y 0, .char), (y 1, .int), (y 2, .boolean), (y 3, .object RX7), (y 4, .object RX5), (y 5, .array .int)]
def K5 (y : Nat → ClassId) (U : State) : Prop := ∃ k : Class, U.vm.classes[y 5]? = some k ∧ k.kind = .array (y 1) (.array .int)
/-- links between nest mates, and arrays of references: what is carried from call to call -/
def Nx (y : Nat → ClassId) (U : State) : Prop := K5 y U ∧ (va_AO RX7 U ∧ va_AO RX5 U) ∧
  (va_Nw (.methodLinkNest RX8 11 yX6_init RX8) U ∧ va_Nw (.methodLinkNest RX8 18 yX7_init RX8) U ∧ va_Nw (.methodLinkNest RX8 39 yX5_init RX8) U ∧ va_Nw (.methodLinkNest RX8 42 yX2_init RX8) U ∧ va_Nw (.methodLinkNest RX8 49 yX4_init RX8) U ∧ va_Nw (.methodLinkNest RX8 56 yX0_init RX8) U) ∧
  (va_Nw (.methodLinkNest RX1 17 yX7_init RX8) U ∧ va_Nw (.methodLinkNest RX5 27 yX3_init RX8) U ∧ va_Nw (.methodLinkNest RX2 11 yX5_init RX8) U)
theorem Nx.warm {y : Nat → ClassId} {s U : State} (hW : s.WarmedH U.vm) (h : Nx y s) : Nx y U := by
  obtain ⟨⟨k, k1, k2⟩, ⟨a1, a2⟩, ⟨n1, n2, n3, n4, n5, n6⟩, m1, m2, m3⟩ := h
  have hv := hW.alike
  obtain ⟨k', hk', he⟩ := hv.2.2 _ _ k1
  exact ⟨⟨k', hk', by rw [he]; exact k2⟩, ⟨a1.moved hv, a2.moved hv⟩, ⟨va_Nw.warmM hW n1, va_Nw.warmM hW n2, va_Nw.warmM hW n3, va_Nw.warmM hW n4, va_Nw.warmM hW n5, va_Nw.warmM hW n6⟩, va_Nw.warmM hW m1, va_Nw.warmM hW m2, va_Nw.warmM hW m3⟩
def Kx (D : va_G) (y : Nat → ClassId) (A : Nat → Prop) (own : String) (cc : ByteArray) (nl : Nat) (p : Program) (s : State) (m : MethodId) (args : Array Value) (meth : Method) (c : Code) : Prop :=
  p.tables.exec = Jvm.exec ∧ c.code = cc ∧ c.maxLocals = nl ∧ s.vm.findClass own = some m.cls ∧ (∀ w ∈ wsG, w.before args s = true) ∧ va_K D vwCl (ytys y) s ∧ Nx y s ∧ (∀ q, s.heap.size ≤ q → A q) ∧ meth.sig.returnType = none ∧ meth.locks = false ∧ meth.name = "<init>"
def KJ (D : va_G) (A : Nat → Prop) (nl : Nat) (p : Program) (l : Launch) (e : Env) (R : Room) (s : State) (m : MethodId) (args : Array Value) (below : List Frame) (meth : Method) (c : Code) (Z : State → Prop) (ce sl pc : Nat) (ls : List (Nat × Value)) (st : List Value) (ws : va_W) : Prop :=
  ∀ (H : Heap) (locs : List Loc) (lsm : Array Slot), va_P D vwCl ws H → va_D A ws → va_S A s.heap H locs → lv_has lsm nl ls → W p l e R s m args below meth c H locs ce sl Z (F0 m pc lsm st)
theorem arrV_congr {cA : ClassId} {N : Nat} {f g : Nat → Value} (h : ∀ j, j < N → f j = g j) : arrV cA N f = arrV cA N g := by
  unfold arrV
  congr 1
  congr 1
  funext j
  exact h j.1 j.2
theorem oi1 : Cond.instanceMethod Lib.objectInit ∈ wsG := tb1 23 (by decide +kernel) (by decide +kernel)
theorem oi2 : Cond.code Lib.objectInit ⟨#[0xb1]⟩ 1 none ∈ wsG := tb1 24 (by decide +kernel) (by decide +kernel)
section KR
variable {D : va_G} {y : Nat → ClassId} {A : Nat → Prop} {own : String} {cc : ByteArray} {nl : Nat} {p : Program} {l : Launch} {e : Env} {R : Room} {s : State} {m : MethodId} {args : Array Value} {below : List Frame} {meth : Method} {c : Code} {Z : State → Prop} {ce sl pc : Nat} {ls : List (Nat × Value)} {st : List Value} {ws : va_W}
theorem K_aload {j : Fin 4} {x : Nat} (B : Kx D y A own cc nl p s m args meth c) (k : Nat) (hl0 : ls[k]? = some ((j : Nat), .ref x)) (hd : decode cc pc = .ok (.aload_n j, 1)) (kk : KJ D A nl p l e R s m args below meth c Z ce sl (pc + 1) ls (.ref x :: st) ws) : KJ D A nl p l e R s m args below meth c Z ce sl pc ls st ws :=
  fun H locs lsm hP hD hS hl => lv_aload_n B.1 B.2.1 hd rfl (lv_at hl k hl0) (kk H locs lsm hP hD hS hl)
theorem K_iload {j : Fin 4} {x : Int32} (B : Kx D y A own cc nl p s m args meth c) (k : Nat) (hl0 : ls[k]? = some ((j : Nat), .int x)) (hd : decode cc pc = .ok (.iload_n j, 1)) (kk : KJ D A nl p l e R s m args below meth c Z ce sl (pc + 1) ls (.int x :: st) ws) : KJ D A nl p l e R s m args below meth c Z ce sl pc ls st ws :=
  fun H locs lsm hP hD hS hl => lv_iload_n B.1 B.2.1 hd rfl (lv_at hl k hl0) (kk H locs lsm hP hD hS hl)
theorem K_iconst {n : Int} {v : Int32} (B : Kx D y A own cc nl p s m args meth c) (hv : Int32.ofInt n = v) (hd : decode cc pc = .ok (.iconst n, 1)) (kk : KJ D A nl p l e R s m args below meth c Z ce sl (pc + 1) ls (.int v :: st) ws) : KJ D A nl p l e R s m args below meth c Z ce sl pc ls st ws :=
  fun H locs lsm hP hD hS hl => lv_iconst B.1 B.2.1 hd hv (kk H locs lsm hP hD hS hl)
theorem K_bipush {n : Int} {v : Int32} (B : Kx D y A own cc nl p s m args meth c) (hv : (Int8.ofInt n).toInt32 = v) (hd : decode cc pc = .ok (.bipush n, 2)) (kk : KJ D A nl p l e R s m args below meth c Z ce sl (pc + 2) ls (.int v :: st) ws) : KJ D A nl p l e R s m args below meth c Z ce sl pc ls st ws :=
  fun H locs lsm hP hD hS hl => lv_bipush B.1 B.2.1 hd hv (kk H locs lsm hP hD hS hl)
theorem K_sipush {n : Int} {v : Int32} (B : Kx D y A own cc nl p s m args meth c) (hv : (Int16.ofInt n).toInt32 = v) (hd : decode cc pc = .ok (.sipush n, 3)) (kk : KJ D A nl p l e R s m args below meth c Z ce sl (pc + 3) ls (.int v :: st) ws) : KJ D A nl p l e R s m args below meth c Z ce sl pc ls st ws :=
  fun H locs lsm hP hD hS hl => lv_sipush B.1 B.2.1 hd hv (kk H locs lsm hP hD hS hl)
theorem K_dup {x : Nat} (B : Kx D y A own cc nl p s m args meth c) (hd : decode cc pc = .ok (.dup, 1)) (kk : KJ D A nl p l e R s m args below meth c Z ce sl (pc + 1) ls (.ref x :: .ref x :: st) ws) : KJ D A nl p l e R s m args below meth c Z ce sl pc ls (.ref x :: st) ws :=
  fun H locs lsm hP hD hS hl => lv_dup B.1 B.2.1 hd rfl (kk H locs lsm hP hD hS hl)
theorem K_goto {off : Int} {tgt : Nat} (B : Kx D y A own cc nl p s m args meth c) (ht : (pc : Int) + off = (tgt : Int)) (hd : decode cc pc = .ok (.goto off, 3)) (kk : KJ D A nl p l e R s m args below meth c Z ce sl tgt ls st ws) : KJ D A nl p l e R s m args below meth c Z ce sl pc ls st ws :=
  fun H locs lsm hP hD hS hl => lv_goto B.1 B.2.1 hd ht (kk H locs lsm hP hD hS hl)
theorem K_geN {x z : Int32} {off : Int} {tgt : Nat} (B : Kx D y A own cc nl p s m args meth c) (ht : (pc : Int) + off = (tgt : Int)) (hc : ¬ z ≤ x) (hd : decode cc pc = .ok (.if_icmp .ge off, 3)) (kk : KJ D A nl p l e R s m args below meth c Z ce sl (pc + 3) ls st ws) : KJ D A nl p l e R s m args below meth c Z ce sl pc ls (.int z :: .int x :: st) ws :=
  fun H locs lsm hP hD hS hl => lv_icmp_ge B.1 B.2.1 hd ht (fun q => absurd q hc) (fun _ => kk H locs lsm hP hD hS hl)
theorem K_geY {x z : Int32} {off : Int} {tgt : Nat} (B : Kx D y A own cc nl p s m args meth c) (ht : (pc : Int) + off = (tgt : Int)) (hc : z ≤ x) (hd : decode cc pc = .ok (.if_icmp .ge off, 3)) (kk : KJ D A nl p l e R s m args below meth c Z ce sl tgt ls st ws) : KJ D A nl p l e R s m args below meth c Z ce sl pc ls (.int z :: .int x :: st) ws :=
  fun H locs lsm hP hD hS hl => lv_icmp_ge B.1 B.2.1 hd ht (fun _ => kk H locs lsm hP hD hS hl) (fun q => absurd hc q)
theorem K_istore {a : Nat} {x : Int32} (B : Kx D y A own cc nl p s m args meth c) {h0 : Nat} (hls : ls = [(0, .ref h0)] ∨ ∃ v, ls = [(0, .ref h0), (1, .int v)]) (hnl : 1 < nl) (hd : decode cc pc = .ok (.istore_n 1, 1)) (kk : KJ D A nl p l e R s m args below meth c Z ce sl (pc + 1) [(0, .ref h0), (1, .int x)] st ws) : KJ D A nl p l e R s m args below meth c Z ce sl pc ls (.int x :: st) ws := by
  intro H locs lsm hP hD hS hl
  have hl0 : lv_has lsm nl [(0, .ref h0)] := by
    rcases hls with q | ⟨v, q⟩
    · rw [q] at hl; exact hl
    · rw [q] at hl; exact lv_sub hl [0] rfl
  exact lv_istore_n (lv' := [(1, .int x), (0, .ref h0)]) B.1 B.2.1 hd rfl hl0 hnl rfl (fun ls hl => kk H locs ls hP hD hS (lv_sub hl [1, 0] rfl))
theorem K_iinc {h0 : Nat} {v w : Int32} (B : Kx D y A own cc nl p s m args meth c) (hw : v + Int32.ofInt 1 = w) (hnl : 1 < nl) (hd : decode cc pc = .ok (.iinc 1 1, 3)) (kk : KJ D A nl p l e R s m args below meth c Z ce sl (pc + 3) [(0, .ref h0), (1, .int w)] st ws) : KJ D A nl p l e R s m args below meth c Z ce sl pc [(0, .ref h0), (1, .int v)] st ws :=
  fun H locs lsm hP hD hS hl => lv_iinc (v := w) (lv' := [(1, .int w), (0, .ref h0)]) B.1 B.2.1 hd hl (k := 1) rfl hw hnl rfl (fun ls hl => kk H locs ls hP hD hS (lv_sub hl [1, 0] rfl))
theorem K_obj {idx x : Nat} (B : Kx D y A own cc nl p s m args meth c) (w1 : Cond.methodLink own idx Lib.objectInit ∈ wsG) (hR : 1 ≤ R.frames ∧ (st.map fun v => v.category).sum + 12 ≤ R.locals) (hd : decode cc pc = .ok (.invokespecial idx, 3)) (kk : KJ D A nl p l e R s m args below meth c Z ce sl (pc + 3) ls st ws) : KJ D A nl p l e R s m args below meth c Z ce sl pc ls (.ref x :: st) ws :=
  fun H locs lsm hP hD hS hl => W.objInit B.1 B.2.1 B.2.2.2.1 (B.2.2.2.2.1 _ w1) (B.2.2.2.2.1 _ oi1) (B.2.2.2.2.1 _ oi2) rfl (hl.1.trans B.2.2.1.symm) rfl hd hR.1 (by show 2 * 0 + _ + 12 ≤ _; have := hR.2; omega) (kk H locs lsm hP hD hS hl)
theorem K_new {C : String} {T : u_T} {N ci idx : Nat} {fs : List Value} (B : Kx D y A own cc nl p s m args meth c) (hin : ∀ w ∈ u_ws C T N, w ∈ wsG) (ty : Nat → FieldType) (hty : ∀ k, k < N → parseFieldDescriptor (T k).2.2.1 = some (ty k)) (w1 : Cond.classLink own idx C ∈ wsG) (w2 : Cond.instantiable C N ∈ wsG) (w3 : Cond.initialized C ∈ wsG) (hc : vwCl[ci]? = some (C, T, N)) (hfs : ∀ j, j < N → defaultValue (ty j) = vp_V fs j) (hR : ce + 1 ≤ R.cells ∧ sl + N ≤ R.slots) (hd : decode cc pc = .ok (.new idx, 3))
    (kk : ∀ q, KJ D A nl p l e R s m args below meth c Z (ce + 1) (sl + N) (pc + 3) ls (.ref q :: st) (ws ++ [(q, .inr (ci, fs))])) : KJ D A nl p l e R s m args below meth c Z ce sl pc ls st ws :=
  fun H locs lsm hP hD hS hl => va_new (own := own) B.1 B.2.1 B.2.2.2.2.1 hin ty hty B.2.2.2.1 (B.2.2.2.2.1 _ w1) (B.2.2.2.2.1 _ w2) (B.2.2.2.2.1 _ w3) B.2.2.2.2.2.1 hP hD hS B.2.2.2.2.2.2.2.1 hc hfs hR.1 hR.2 hd (fun q H1 hP1 hD1 hS1 => kk q H1 locs lsm hP1 hD1 hS1 hl)
theorem K_newa {atype : ArrayType} {ty : FieldType} {n : Int32} {N : Nat} {cA0 : ClassId} (B : Kx D y A own cc nl p s m args meth c) (t0 : Nat) (ht0 : (ytys y)[t0]? = some (cA0, ty)) (hra : ∀ (U : State) (q : ClassId), va_RA U q ty → U.vm.findClass ("[" ++ ty.toString) = some q) (hty : newarray.typeOf atype = ty) (hdv : defaultValue ty = .int 0) (w1 : Cond.arrayClass ty ∈ wsG) (hn : ¬ n < 0) (hN : n.toNatClampNeg = N) (hby : N * componentBytes ty ≤ 536870912) (hR : ce + 1 ≤ R.cells ∧ sl + N ≤ R.slots) (hd : decode cc pc = .ok (.newarray atype, 2))
    (kk : ∀ q, KJ D A nl p l e R s m args below meth c Z (ce + 1) (sl + N) (pc + 2) ls (.ref q :: st) (ws ++ [(q, .inl (cA0, N, .inl (fun _ => 0)))])) : KJ D A nl p l e R s m args below meth c Z ce sl pc ls (.int n :: st) ws := by
  intro H locs lsm hP hD hS hl
  refine va_newa (a0 := (N, .inl (fun _ => 0))) B.1 B.2.1 (by rw [hty]; exact B.2.2.2.2.1 _ w1) hty B.2.2.2.2.2.1 hP hD hS B.2.2.2.2.2.2.2.1 (fun cA => by rw [vp_cell_i, hdv]) hn hN hby hR.1 hR.2 hd (fun q cA H1 hK1 hP1 hD1 hS1 => ?_)
  have e1 := hra s _ (hK1.2 6 (cA, ty) rfl).2
  have e2 := hra s _ (B.2.2.2.2.2.1.2 t0 _ ht0).2
  have e3 : cA = cA0 := Option.some.inj (e1.symm.trans e2)
  subst e3
  exact kk q H1 locs lsm hP1 hD1 hS1 hl
theorem K_newq {C : String} {n : Int32} {N idx : Nat} {cA0 : ClassId} (B : Kx D y A own cc nl p s m args meth c) (t0 : Nat) (ht0 : (ytys y)[t0]? = some (cA0, .object C)) (w1 : Cond.classLink own idx C ∈ wsG) (hao : va_AO C s) (hn : ¬ n < 0) (hN : n.toNatClampNeg = N) (hby : N * 4 ≤ 536870912) (hR : ce + 1 ≤ R.cells ∧ sl + N ≤ R.slots) (hd : decode cc pc = .ok (.anewarray idx, 3))
    (kk : ∀ q, KJ D A nl p l e R s m args below meth c Z (ce + 1) (sl + N) (pc + 3) ls (.ref q :: st) (ws ++ [(q, .inl (cA0, N, .inr (.inr (.inr (.inr (fun _ => none))))))])) : KJ D A nl p l e R s m args below meth c Z ce sl pc ls (.int n :: st) ws := by
  intro H locs lsm hP hD hS hl
  refine va_newq B.1 B.2.1 B.2.2.2.1 (B.2.2.2.2.1 _ w1) hao B.2.2.2.2.2.1 hP hD hS B.2.2.2.2.2.2.2.1 hn hN hby hR.1 hR.2 hd (fun q cA H1 hK1 hP1 hD1 hS1 => ?_)
  obtain ⟨-, -, -, -, -, e1⟩ := (hK1.2 6 (cA, .object C) rfl).2
  obtain ⟨-, -, -, -, -, e2⟩ := (B.2.2.2.2.2.1.2 t0 _ ht0).2
  have e3 : cA = cA0 := Option.some.inj (e1.symm.trans e2)
  subst e3
  exact kk q H1 locs lsm hP1 hD1 hS1 hl
theorem K_put {a k idx ci : Nat} {C : String} {T : u_T} {N : Nat} {fs : List Value} {v : Value} {ty : FieldType} {ws' : va_W} (B : Kx D y A own cc nl p s m args meth c) (q0 : Nat) (he : ws[q0]? = some (a, .inr (ci, fs))) (hc : vwCl[ci]? = some (C, T, N)) (hin : ∀ w ∈ u_ws C T N, w ∈ wsG) (ty0 : Nat → FieldType) (hty : ∀ k, k < N → parseFieldDescriptor (T k).2.2.1 = some (ty0 k)) (hnm : ∀ a, a < N → ∀ b, b < N → a ≠ b → (T a).2.1 ≠ (T b).2.1) (hk : k < N) (w1 : Cond.fieldLink own idx (T k).1 (T k).2.1 (T k).2.2.1 ∈ wsG) (hdecl : (T k).1 = own) (hde : parseFieldDescriptor (T k).2.2.1 = some ty) (hnar : narrow ty v = v) (hfit : fits ty v = true) (hlen : k < fs.length) (hws : ws.set q0 (a, .inr (ci, fs.set k v)) = ws') (hd : decode cc pc = .ok (.putfield idx, 3))
    (kk : KJ D A nl p l e R s m args below meth c Z ce sl (pc + 3) ls st ws') : KJ D A nl p l e R s m args below meth c Z ce sl pc ls (v :: .ref a :: st) ws := by
  intro H locs lsm hP hD hS hl
  subst hws
  cases hf : (T k).2.2.2 with
  | true => exact va_putF (own := own) B.1 B.2.1 B.2.2.2.2.1 hin ty0 hty hnm B.2.2.2.1 B.2.2.2.2.2.1 hP hD hS q0 he hc k hk (B.2.2.2.2.1 _ w1) (fun _ h9 => h9) hf B.2.2.2.2.2.2.2.2.2.2 hdecl hde hnar hfit hlen hd (fun H1 locs1 hP1 hD1 hS1 => kk H1 locs1 lsm hP1 hD1 hS1 hl)
  | false => exact va_put (own := own) B.1 B.2.1 B.2.2.2.2.1 hin ty0 hty hnm B.2.2.2.1 B.2.2.2.2.2.1 hP hD hS q0 he hc k hk (B.2.2.2.2.1 _ w1) (fun _ h9 => h9) hf hde hnar hfit hlen hd (fun H1 locs1 hP1 hD1 hS1 => kk H1 locs1 lsm hP1 hD1 hS1 hl)
theorem K_get {a k idx ci : Nat} {C : String} {T : u_T} {N : Nat} {fs : List Value} {v : Value} (B : Kx D y A own cc nl p s m args meth c) (q0 : Nat) (he : ws[q0]? = some (a, .inr (ci, fs))) (hc : vwCl[ci]? = some (C, T, N)) (hin : ∀ w ∈ u_ws C T N, w ∈ wsG) (hk : k < N) (w1 : Cond.fieldLink own idx (T k).1 (T k).2.1 (T k).2.2.1 ∈ wsG) (hv : fs[k]? = some v) (hd : decode cc pc = .ok (.getfield idx, 3))
    (kk : KJ D A nl p l e R s m args below meth c Z ce sl (pc + 3) ls (v :: st) ws) : KJ D A nl p l e R s m args below meth c Z ce sl pc ls (.ref a :: st) ws :=
  fun H locs lsm hP hD hS hl => va_get (own := own) B.1 B.2.1 B.2.2.2.2.1 hin B.2.2.2.1 B.2.2.2.2.2.1 hP q0 he hc k hk (B.2.2.2.2.1 _ w1) (fun _ h9 => h9) hv hd (kk H locs lsm hP hD hS hl)
theorem K_iast {a n : Nat} {cA : ClassId} {f : Nat → Int32} {i x : Int32} {ws' : va_W} (B : Kx D y A own cc nl p s m args meth c) (q0 t0 : Nat) (he : ws[q0]? = some (a, .inl (cA, n, .inl f))) (ht : (ytys y)[t0]? = some (cA, .int)) (hin : vp_in i n) (hws : ws.set q0 (a, .inl (cA, n, .inl (upd f i.toNatClampNeg x))) = ws') (hd : decode cc pc = .ok (.iastore, 1))
    (kk : KJ D A nl p l e R s m args below meth c Z ce sl (pc + 1) ls st ws') : KJ D A nl p l e R s m args below meth c Z ce sl pc ls (.int x :: .int i :: .ref a :: st) ws := by
  intro H locs lsm hP hD hS hl
  subst hws
  exact va_iast B.1 B.2.1 B.2.2.2.2.2.1 hP hD hS q0 t0 he ht hin hd (fun H1 locs1 hP1 hD1 hS1 => kk H1 locs1 lsm hP1 hD1 hS1 hl)
theorem K_aast {a n v ci : Nat} {cA : ClassId} {r : vw_C} {vs : List Value} {f : Nat → Option Nat} {i : Int32} {ws' : va_W} (B : Kx D y A own cc nl p s m args meth c) (q0 t0 qk : Nat) (he : ws[q0]? = some (a, .inl (cA, n, .inr (.inr (.inr (.inr f)))))) (ht : (ytys y)[t0]? = some (cA, .object r.1)) (hv : ws[qk]? = some (v, .inr (ci, vs))) (hc : vwCl[ci]? = some r) (hin : vp_in i n) (hws : ws.set q0 (a, .inl (cA, n, .inr (.inr (.inr (.inr (va_up f i.toNatClampNeg (some v))))))) = ws') (hd : decode cc pc = .ok (.aastore, 1))
    (kk : KJ D A nl p l e R s m args below meth c Z ce sl (pc + 1) ls st ws') : KJ D A nl p l e R s m args below meth c Z ce sl pc ls (.ref v :: .int i :: .ref a :: st) ws := by
  intro H locs lsm hP hD hS hl
  subst hws
  exact va_astq B.1 B.2.1 B.2.2.2.2.2.1 hP hD hS q0 t0 qk ci he ht hv hc hin hd (fun H1 locs1 hP1 hD1 hS1 => kk H1 locs1 lsm hP1 hD1 hS1 hl)
/-- an array of references, told by another function -/
theorem K_refs {a n : Nat} {cA : ClassId} {f g : Nat → Option Nat} {ws' : va_W} (q0 : Nat) (he : ws[q0]? = some (a, .inl (cA, n, .inr (.inr (.inr (.inr f)))))) (hfg : ∀ j, j < n → f j = g j) (hws : ws.set q0 (a, .inl (cA, n, .inr (.inr (.inr (.inr g))))) = ws') (kk : KJ D A nl p l e R s m args below meth c Z ce sl pc ls st ws') : KJ D A nl p l e R s m args below meth c Z ce sl pc ls st ws := by
  intro H locs lsm hP hD hS hl
  subst hws
  refine kk H locs lsm (fun k q hk => ?_) (hD.set he) hS hl
  rw [List.getElem?_set] at hk
  by_cases e : q0 = k
  · rw [if_pos e] at hk
    have hlt : q0 < ws.length := (List.getElem?_eq_some_iff.mp he).1
    rw [if_pos hlt] at hk
    cases hk
    have h0 := hP q0 _ he
    show H[a]? = some (vp_cell cA (n, .inr (.inr (.inr (.inr g)))))
    rw [vp_cell_q, ← arrV_congr (f := fun j => va_rf (f j)) (fun j hj => by rw [hfg j hj])]
    exact h0
  · rw [if_neg e] at hk
    exact hP k q hk
/-- new int[5][108] -/
theorem K_multi {idx : Nat} (B : Kx D y A own cc nl p s m args meth c) (w1 : Cond.classLink own idx "[[I" ∈ wsG) (hR : ce + 6 ≤ R.cells ∧ sl + 545 ≤ R.slots) (hd : decode cc pc = .ok (.multianewarray idx 2, 4))
    (kk : ∀ a : Nat → Nat, KJ D A nl p l e R s m args below meth c Z (ce + 6) (sl + 545) (pc + 4) ls (.ref (a 0) :: st) (ws ++ [(a 0, .inl (y 5, 5, .inr (.inr (.inr (.inr (fun k => some (a (1 + k)))))))), (a 1, .inl (y 1, 108, .inl (fun _ => 0))), (a 2, .inl (y 1, 108, .inl (fun _ => 0))), (a 3, .inl (y 1, 108, .inl (fun _ => 0))), (a 4, .inl (y 1, 108, .inl (fun _ => 0))), (a 5, .inl (y 1, 108, .inl (fun _ => 0)))])) : KJ D A nl p l e R s m args below meth c Z ce sl pc ls (.int 108 :: .int 5 :: st) ws := by
  intro H locs lsm hP hD hS hl
  obtain ⟨k5, h5, hk5⟩ := B.2.2.2.2.2.2.1.1
  have hA := B.2.2.2.2.2.2.2.1
  obtain ⟨ha1, hr1⟩ := B.2.2.2.2.2.1.2 1 (y 1, .int) rfl
  obtain ⟨ha5, hr5⟩ := B.2.2.2.2.2.1.2 5 (y 5, .array .int) rfl
  obtain ⟨-, kI, hkI, ci, hkindI⟩ := ha1 0 (fun _ => .null)
  have hf5 : s.vm.findClass "[[I" = some (y 5) := hr5
  refine W_multi (cA := y 5) (cI := y 1) B.1 B.2.1 B.2.2.2.1 (B.2.2.2.2.1 _ w1) hf5 h5 hk5 hkI hkindI hd hR.1 hR.2 (fun H1 z1 z2 z3 z4 => ?_)
  have hz := hS.1
  have hb : A H.size := hA _ hz
  have hold : ∀ (k : Nat) (q : Nat × va_E), ws[k]? = some q → H1[q.1]? = H[q.1]? := fun k q hk => z4 q.1 ((hP k q hk).lt)
  have hlow : ∀ (k : Nat) (q : Nat × va_E), ws[k]? = some q → q.1 < H.size := fun k q hk => (hP k q hk).lt
  have hrow : ∀ j, j < 5 → H1[H.size + (1 + j)]? = some (vp_cell (y 1) (108, .inl (fun _ => 0))) := fun j hj => by
    rw [show H.size + (1 + j) = H.size + 1 + j by omega, z3 j hj, vp_cell_i]
    rfl
  refine kk (fun i => H.size + i) H1 _ lsm ((hP.kept hold).app ?_) (hD.app ⟨?_, ?_⟩ ?_) ⟨by omega, fun q h1 h2 => (z4 q (Nat.lt_of_lt_of_le h1 hz)).trans (hS.2.1 q h1 h2), fun q hq => ?_⟩ hl
  · intro k q hk
    match k, hk with
    | 0, hk =>
      cases hk
      show H1[H.size]? = some (vp_cell (y 5) (5, .inr (.inr (.inr (.inr (fun k => some (H.size + (1 + k))))))))
      rw [z2, vp_cell_q]
      exact congrArg some (arrV_congr (fun j hj => by
        show (if j < 5 then Value.ref (H.size + 1 + j) else Value.null) = Value.ref (H.size + (1 + j))
        rw [if_pos hj, Nat.add_assoc]))
    | 1, hk => cases hk; exact hrow 0 (by decide)
    | 2, hk => cases hk; exact hrow 1 (by decide)
    | 3, hk => cases hk; exact hrow 2 (by decide)
    | 4, hk => cases hk; exact hrow 3 (by decide)
    | 5, hk => cases hk; exact hrow 4 (by decide)
    | k + 6, hk => cases hk
  · intro i j p q hi hj hpq
    have key : ∀ (k : Nat) (q : Nat × va_E), ([(H.size + 0, .inl (y 5, 5, .inr (.inr (.inr (.inr (fun k => some (H.size + (1 + k)))))))), (H.size + 1, .inl (y 1, 108, .inl (fun _ => 0))), (H.size + 2, .inl (y 1, 108, .inl (fun _ => 0))), (H.size + 3, .inl (y 1, 108, .inl (fun _ => 0))), (H.size + 4, .inl (y 1, 108, .inl (fun _ => 0))), (H.size + 5, .inl (y 1, 108, .inl (fun _ => 0)))] : va_W)[k]? = some q → q.1 = H.size + k := by
      intro k q hk
      match k, hk with
      | 0, hk => cases hk; rfl
      | 1, hk => cases hk; rfl
      | 2, hk => cases hk; rfl
      | 3, hk => cases hk; rfl
      | 4, hk => cases hk; rfl
      | 5, hk => cases hk; rfl
      | k + 6, hk => cases hk
    have h1 := key i p hi
    have h2 := key j q hj
    omega
  · intro k q hk
    match k, hk with
    | 0, hk => cases hk; exact hA _ (by show s.heap.size ≤ H.size + 0; omega)
    | 1, hk => cases hk; exact hA _ (by show s.heap.size ≤ H.size + 1; omega)
    | 2, hk => cases hk; exact hA _ (by show s.heap.size ≤ H.size + 2; omega)
    | 3, hk => cases hk; exact hA _ (by show s.heap.size ≤ H.size + 3; omega)
    | 4, hk => cases hk; exact hA _ (by show s.heap.size ≤ H.size + 4; omega)
    | 5, hk => cases hk; exact hA _ (by show s.heap.size ≤ H.size + 5; omega)
    | k + 6, hk => cases hk
  · intro i j p q hi hj hpq
    have hp := hlow i p hi
    match j, hj with
    | 0, hj => cases hj; have : p.1 = H.size + 0 := hpq; omega
    | 1, hj => cases hj; have : p.1 = H.size + 1 := hpq; omega
    | 2, hj => cases hj; have : p.1 = H.size + 2 := hpq; omega
    | 3, hj => cases hj; have : p.1 = H.size + 3 := hpq; omega
    | 4, hj => cases hj; have : p.1 = H.size + 4 := hpq; omega
    | 5, hj => cases hj; have : p.1 = H.size + 5 := hpq; omega
    | j + 6, hj => cases hj
  · rcases List.mem_append.mp hq with h | h
    · exact hS.2.2 q h
    · obtain ⟨j, -, rfl⟩ := List.mem_map.mp h
      exact hb
end KR
/-- a constructor's contract -/
def KC (l : Launch) (D : va_G) (y : Nat → ClassId) (yy : MethodName) (cc : ByteArray) (nl fr lo mc ms ci : Nat) (fs : List Value) (Wf : (Nat → Nat) → va_W) : Prop :=
  ∀ (h0 sz : Nat), Met l yy (.code yy cc nl none :: wsG) ({ frames := fr, cells := mc, slots := ms, locals := lo }) (va_Pc [.ref h0] (fun U => U.heap.size = sz ∧ va_P D vwCl [(h0, .inr (ci, fs))] U.heap ∧ va_K D vwCl (ytys y) U ∧ Nx y U)) (va_Qv (fun u : Nat → Nat => u 0 = h0) (fun u t => va_P D vwCl (Wf u) t.heap ∧ va_D (va_A [(h0, .inr (ci, fs))] sz) (Wf u)) (va_A [(h0, .inr (ci, fs))] sz)) mc ms (va_A [(h0, .inr (ci, fs))] sz)
theorem KC.of {l : Launch} {D : va_G} {y : Nat → ClassId} {yy : MethodName} {cc : ByteArray} {nl fr lo mc ms ci : Nat} {fs : List Value} {Wf : (Nat → Nat) → va_W} (hy : plainName yy.cls = true) (hyn : yy.name = "<init>") (hnl : 1 ≤ nl)
    (h : ∀ (h0 : Nat) (A : Nat → Prop) (p : Program) (e : Env) (s : State) (m : MethodId) (args : Array Value) (below : List Frame) (meth : Method) (c : Code), Kx D y A yy.cls cc nl p s m args meth c → KJ D A nl p l e ({ frames := fr, cells := mc, slots := ms, locals := lo }) s m args below meth c (MQ below (va_Qv (fun u : Nat → Nat => u 0 = h0) (fun u t => va_P D vwCl (Wf u) t.heap ∧ va_D A (Wf u)) A) args s mc ms A) 0 0 0 [(0, .ref h0)] [] [(h0, .inr (ci, fs))]) : KC l D y yy cc nl fr lo mc ms ci fs Wf := by
  intro h0 sz
  refine Met.ofW (cc := cc) (maxL := nl) (ret := none) hy rfl ?_
  intro p e s m args below meth c s₁ B hml hv
  obtain ⟨rfl, hsz, hP, hK, hN⟩ := hv
  subst hsz
  have hts := atoms_spec (ws := .code yy cc nl none :: wsG) B.pre
  have hown : s.vm.findClass yy.cls = some m.cls := findClass_of_methodNamed B.named
  have hin : meth.name = "<init>" := (name_of_methodNamed B.named B.method).1.trans hyn
  rw [lg_entry_eq]
  have hl := lv_entry ([.ref h0]) (n := nl) (by show 1 ≤ nl; exact hnl)
  have hD : va_D (fun _ => True) ([(h0, .inr (ci, fs))] : va_W) := by
    refine ⟨fun i j p q hi hj _ => ?_, fun _ _ _ => trivial⟩
    match i, j, hi, hj with
    | 0, 0, _, _ => rfl
    | i + 1, _, hi, _ => cases hi
    | 0, j + 1, _, hj => cases hj
  exact h h0 _ p e s m _ below meth c ⟨B.exec, B.bytes, hml, hown, fun w hw => hts w (List.mem_cons_of_mem _ hw), hK, hN, fun q hq => Or.inr hq, B.returns, B.notSynchronized, hin⟩ s.heap [] _ hP hD.self va_S.rf hl
section KS
variable {D : va_G} {y : Nat → ClassId} {A : Nat → Prop} {own : String} {cc : ByteArray} {nl : Nat} {p : Program} {l : Launch} {e : Env} {R : Room} {s : State} {m : MethodId} {args : Array Value} {below : List Frame} {meth : Method} {c : Code} {Z : State → Prop} {ce sl pc : Nat} {ls : List (Nat × Value)} {st : List Value} {ws : va_W}
theorem K_ret {h0 : Nat} {Wf : (Nat → Nat) → va_W} (B : Kx D y A own cc nl p s m args meth c) (u : Nat → Nat) (hu : u 0 = h0) (hw : Wf u = ws) (hd : decode cc pc = .ok (.return_, 1)) : KJ D A nl p l e R s m args below meth c (MQ below (va_Qv (fun u : Nat → Nat => u 0 = h0) (fun u t => va_P D vwCl (Wf u) t.heap ∧ va_D A (Wf u)) A) args s ce sl A) ce sl pc ls [] ws := by
  intro H locs lsm hP hD hS hl
  subst hw
  exact W.vret B.1 B.2.1 B.2.2.2.2.2.2.2.2.1 (fun t ht hW => ⟨⟨u, rfl, hu, by rw [ht]; exact hP, hD⟩, hS.F ht⟩) hS.2.2 hd B.2.2.2.2.2.2.2.2.2.1
theorem va_join' {A0 : Nat → Prop} {wr wc w1 : va_W} {H H1 : Heap} (hP : va_P D vwCl (wr ++ wc) H) (hD : va_D A0 (wr ++ wc)) (hk : ∀ q : Nat, q < H.size → ¬ va_A wc H.size q → H1[q]? = H[q]?) (hF : ∀ q, va_A wc H.size q → A0 q) (hP1 : va_P D vwCl w1 H1) (hD1 : va_D (va_A wc H.size) w1) : va_P D vwCl (wr ++ w1) H1 ∧ va_D A0 (wr ++ w1) := by
  have inl : ∀ {k : Nat} {q : Nat × va_E}, wr[k]? = some q → (wr ++ wc)[k]? = some q := fun {k q} h => by
    rw [List.getElem?_append_left (List.getElem?_eq_some_iff.mp h).1]; exact h
  have inr : ∀ {k : Nat} {q : Nat × va_E}, wc[k]? = some q → (wr ++ wc)[wr.length + k]? = some q := fun {k q} h => by
    rw [List.getElem?_append_right (Nat.le_add_right _ _), Nat.add_sub_cancel_left]; exact h
  have apart : ∀ (k : Nat) (q : Nat × va_E), wr[k]? = some q → q.1 < H.size ∧ ¬ va_A wc H.size q.1 := by
    intro k q hq
    have hl := (hP k q (inl hq)).lt
    refine ⟨hl, fun h => ?_⟩
    rcases h with ⟨k2, e, h⟩ | h
    · have hij := hD.1 k (wr.length + k2) q (q.1, e) (inl hq) (inr h) rfl
      have := (List.getElem?_eq_some_iff.mp hq).1
      omega
    · omega
  refine ⟨va_P.app (fun k q hq => (hP k q (inl hq)).kept (hk q.1 (apart k q hq).1 (apart k q hq).2)) hP1, va_D.app ⟨fun i j x y hx hy hxy => hD.1 i j x y (inl hx) (inl hy) hxy, fun k q hq => hD.2 k q (inl hq)⟩ (hD1.weaken (fun k q _ h => hF q.1 h)) (fun i j x y hx hy hxy => ?_)⟩
  exact (apart i x hx).2 (by rw [hxy]; exact hD1.2 j y hy)
theorem KC_blind {y : Nat → ClassId} {q ci sz : Nat} {fs : List Value} : FrameBlind (va_Pc [.ref q] (fun U => U.heap.size = sz ∧ va_P D vwCl [(q, .inr (ci, fs))] U.heap ∧ va_K D vwCl (ytys y) U ∧ Nx y U)) := by
  intro a U g mk h
  obtain ⟨q0, q1, qP, qK, qN⟩ := h
  exact ⟨q0, q1, qP, va_K.moved (u := U) (U := U.calling g mk a) (Vm.Alike.refl U.vm) qK, Nx.warm (U := U.calling g mk a) (State.WarmedH.refl U) qN⟩
theorem K_wF {wr : va_W} {q ci : Nat} {fs : List Value} {H : Heap} {locs : List Loc} (hD : va_D A (wr ++ [(q, .inr (ci, fs))])) (hS : va_S A s.heap H locs) (hA : ∀ q, s.heap.size ≤ q → A q) : ∀ q', va_A [(q, .inr (ci, fs))] H.size q' → A q' := by
  intro q' h
  rcases h with ⟨k, e, h⟩ | h
  · match k, h with
    | 0, h =>
      cases h
      exact hD.2 wr.length (q, .inr (ci, fs)) (by rw [List.getElem?_append_right (Nat.le_refl _), Nat.sub_self]; rfl)
    | k + 1, h => cases h
  · exact hA _ (Nat.le_trans hS.1 h)
/-- a nest mate's constructor -/
theorem K_callN {yy : MethodName} {bytes : ByteArray} {idx maxL fr lo mc ms ci q : Nat} {fs : List Value} {Wf : (Nat → Nat) → va_W} {wr : va_W} (B : Kx D y A own cc nl p s m args meth c) (hC : KC l D y yy bytes maxL fr lo mc ms ci fs Wf) (hws : ws = wr ++ [(q, .inr (ci, fs))]) (hl0 : va_Nw (.methodLinkNest own idx yy RX8) s) (w1 : Cond.initialized yy.cls ∈ wsG) (w2 : Cond.code yy bytes maxL none ∈ wsG) (w3 : Cond.instanceMethod yy ∈ wsG) (hyn : yy.name = "<init>") (hcl : yy.cls ≠ "java/lang/invoke/MethodHandle" ∧ yy.cls ≠ "java/lang/invoke/VarHandle" ∧ (parseMethodDescriptor yy.desc).map (fun d => d.parameters.length) = some 0) (hR : fr + 1 ≤ R.frames ∧ 8 + (maxL + 11) + lo ≤ R.locals) (hRc : ce + mc ≤ R.cells ∧ sl + ms ≤ R.slots) (hcat : (st.map fun v => v.category).sum ≤ 8) (hd : decode cc pc = .ok (.invokespecial idx, 3))
    (kk : ∀ u : Nat → Nat, u 0 = q → KJ D A nl p l e R s m args below meth c Z (ce + mc) (sl + ms) (pc + 3) ls st (wr ++ Wf u)) : KJ D A nl p l e R s m args below meth c Z ce sl pc ls (.ref q :: st) ws := by
  intro H locs lsm hP hD hS hl
  subst hws
  have hts := B.2.2.2.2.1
  have hF := K_wF (wr := wr) hD hS B.2.2.2.2.2.2.2.1
  have hPc : va_P D vwCl [(q, .inr (ci, fs))] H := fun k z hk => hP (wr.length + k) z (by rw [List.getElem?_append_right (Nat.le_add_right _ _), Nat.add_sub_cancel_left]; exact hk)
  refine va_callv (va_runIN (As := []) (rest := st) (nL := nl) ⟨B.1, B.2.1, B.2.2.1, B.2.2.2.1, hts⟩ (hC q H.size) ⟨va_cnB 0 hts (fun w hw => by
    rcases List.mem_cons.mp hw with rfl | hw
    · exact wsG_good _ w2
    · exact wsG_good _ hw) rfl rfl rfl hl0 (hts _ w1) hcl hR, hyn, hts _ w3⟩ ⟨KC_blind, fun U hU hW => ⟨rfl, by rw [hU], by rw [hU]; exact hPc, va_K.moved hW.alike B.2.2.2.2.2.1, Nx.warm hW B.2.2.2.2.2.2.1⟩⟩ rfl rfl hl.1 rfl (lv_room hcat) hd hRc) hS (fun q' _ h => hF q' h) hF (fun u t H1 locs1 ht hvm hpost hB hz hk hS1 => ?_)
  obtain ⟨hP1, hD1⟩ := hB
  rw [ht] at hP1
  obtain ⟨hP2, hD2⟩ := va_join' hP hD hk hF hP1 hD1
  exact kk u hpost H1 locs1 lsm hP2 hD2 hS1 hl
/-- a constructor that is no nest mate's private one -/
theorem K_callI {yy : MethodName} {bytes : ByteArray} {idx maxL fr lo mc ms ci q : Nat} {fs : List Value} {Wf : (Nat → Nat) → va_W} {wr : va_W} (B : Kx D y A own cc nl p s m args meth c) (hC : KC l D y yy bytes maxL fr lo mc ms ci fs Wf) (hws : ws = wr ++ [(q, .inr (ci, fs))]) (w0 : Cond.methodLink own idx yy ∈ wsG) (w1 : Cond.initialized yy.cls ∈ wsG) (w2 : Cond.code yy bytes maxL none ∈ wsG) (w3 : Cond.instanceMethod yy ∈ wsG) (hyn : yy.name = "<init>") (hcl : yy.cls ≠ "java/lang/invoke/MethodHandle" ∧ yy.cls ≠ "java/lang/invoke/VarHandle" ∧ (parseMethodDescriptor yy.desc).map (fun d => d.parameters.length) = some 0) (hR : fr + 1 ≤ R.frames ∧ 8 + (maxL + 11) + lo ≤ R.locals) (hRc : ce + mc ≤ R.cells ∧ sl + ms ≤ R.slots) (hcat : (st.map fun v => v.category).sum ≤ 8) (hd : decode cc pc = .ok (.invokespecial idx, 3))
    (kk : ∀ u : Nat → Nat, u 0 = q → KJ D A nl p l e R s m args below meth c Z (ce + mc) (sl + ms) (pc + 3) ls st (wr ++ Wf u)) : KJ D A nl p l e R s m args below meth c Z ce sl pc ls (.ref q :: st) ws := by
  intro H locs lsm hP hD hS hl
  subst hws
  have hts := B.2.2.2.2.1
  have hF := K_wF (wr := wr) hD hS B.2.2.2.2.2.2.2.1
  have hPc : va_P D vwCl [(q, .inr (ci, fs))] H := fun k z hk => hP (wr.length + k) z (by rw [List.getElem?_append_right (Nat.le_add_right _ _), Nat.add_sub_cancel_left]; exact hk)
  refine va_callv (va_runI (As := []) (rest := st) (nL := nl) ⟨B.1, B.2.1, B.2.2.1, B.2.2.2.1, hts⟩ (hC q H.size) ⟨callB_of 0 hts (fun w hw => by
    rcases List.mem_cons.mp hw with rfl | hw
    · exact wsG_good _ w2
    · exact wsG_good _ hw) rfl rfl rfl (hts _ w1) (hts _ w0) hcl hR, hyn, hts _ w3⟩ ⟨KC_blind, fun U hU hW => ⟨rfl, by rw [hU], by rw [hU]; exact hPc, va_K.moved hW.alike B.2.2.2.2.2.1, Nx.warm hW B.2.2.2.2.2.2.1⟩⟩ rfl rfl hl.1 rfl (lv_room hcat) hd hRc) hS (fun q' _ h => hF q' h) hF (fun u t H1 locs1 ht hvm hpost hB hz hk hS1 => ?_)
  obtain ⟨hP1, hD1⟩ := hB
  rw [ht] at hP1
  obtain ⟨hP2, hD2⟩ := va_join' hP hD hk hF hP1 hD1
  exact kk u hpost H1 locs1 lsm hP2 hD2 hS1 hl
end KS
