section JK
variable {α : Type} {G : Gt} {μ : Mt α} {pc : Nat} {ls : List (Option Value)} {st : List Value} {I : Mem} {F : Option α}
/-- least[i] -/
theorem J_lald {a : Nat} {i : Int32} (ho : ok G a 21) (hin : vp_in i 5) (hd : decode (mco μ) pc = .ok (.aaload, 1)) (kk : J G μ (pc + 1) ls (.ref (78 + i.toNatClampNeg) :: st) I F) : J G μ pc ls (.int i :: .ref a :: st) I F := by
  intro p e s m args below meth c B r hF H locs lsm hP hS hl1
  have ha : (wl G I)[a]? = some (gad G a, .inl (gy G 5, 5, .inr (.inr (.inr (.inr (fun k => some (gad G (78 + k)))))))) := ok_get ho
  have hK := B.2.2.2.2.2.1
  have hlt : i.toNatClampNeg < 5 := Nat.not_le.mp fun q => hin (Or.inr q)
  exact W.aald (v := va_rf (some (gad G (78 + i.toNatClampNeg)))) (ty := .array .int) B.1 B.2.1 (hP a _ ha) ((hK.2 5 _ rfl).1 5 (fun j => va_rf (some (gad G (78 + j))))) rfl (fun q => by cases q) (by show ¬ (i < 0 ∨ (arrV _ _ _).slots.size ≤ _); rw [arrV_size]; exact hin) (by show (arrV _ _ _).slots[_]? = _; rw [arrV_read _ _ hlt]) rfl rfl hd (kk p e s m args below meth c B r hF H locs lsm hP hS hl1)
/-- kept[i] = a Told -/
theorem J_kast {a v : Nat} {i : Int32} (ho : ok G a 16) (hv : ok G v 7) (hv31 : v < 2 ^ 31) (hin : vp_in i 6) (hd : decode (mco μ) pc = .ok (.aastore, 1)) (kk : J G μ (pc + 1) ls st (stm I a i.toNatClampNeg (nI v)) F) : J G μ pc ls (.ref v :: .int i :: .ref a :: st) I F := by
  intro p e s m args below meth c B r hF H locs lsm hP hS hl1
  refine va_astq (r := (RX7, TX7, 6)) (f := fun k => some (gad G (I a k).toNatClampNeg)) B.1 B.2.1 B.2.2.2.2.2.1 hP (B.2.2.2.2.2.2.2.1.D I) hS a 3 v 7 (ok_get ho) rfl (ok_obj hv (by decide)) rfl hin hd fun H1 locs1 hP1 _ hS1 => ?_
  refine kk p e s m args below meth c B r hF H1 locs1 lsm ?_ hS1 hl1
  have e1 := ok_set (G := G) (I := I) ho (upd (I a) i.toNatClampNeg (nI v))
  have e2 : (va_up (fun k => some (gad G (I a k).toNatClampNeg)) i.toNatClampNeg (some (gad G v))) = (fun k => some (gad G (upd (I a) i.toNatClampNeg (nI v) k).toNatClampNeg)) := by
    funext k
    unfold va_up upd
    by_cases hk : k = i.toNatClampNeg
    · rw [if_pos hk, if_pos hk, nI_clamp hv31]
    · rw [if_neg hk, if_neg hk]
  rw [e2] at hP1
  exact e1 ▸ hP1
/-- the static arrays -/
theorem J_gets (j : Nat) {idx : Nat} {nm : String} (hj : (j = 0 ∧ nm = "NUMBER_LEAST") ∨ (j = 1 ∧ nm = "NUMBER_MOST") ∨ (j = 2 ∧ nm = "NUMBER_FIRST")) (hl : Cond.fieldLink (mow μ) idx RX8 nm "[I" ∈ wsG) (hd : decode (mco μ) pc = .ok (.getstatic idx, 3)) (kk : J G μ (pc + 3) ls (.ref (1000 + j) :: st) I F) : J G μ pc ls st I F := by
  intro p e s m args below meth c B r hF H locs lsm hP hS hl1
  have hZ : va_Z RX8 nm "[I" (.ref (gad G (1000 + j))) (gA G) s s.heap := by
    obtain ⟨h1, h2, h3⟩ := B.2.2.2.2.2.2.1.1
    rcases hj with ⟨rfl, rfl⟩ | ⟨rfl, rfl⟩ | ⟨rfl, rfl⟩
    · exact h1
    · exact h2
    · exact h3
  exact va_gets B.1 B.2.1 hZ hS B.2.2.2.1 (B.2.2.2.2.1 _ hl) (fun _ h => h) hd (kk p e s m args below meth c B r hF H locs lsm hP hS hl1)
theorem J_getsN (j : Nat) {idx : Nat} {own nm : String} (ho : mow μ = own) (hj : (j = 2 ∧ own = RX7 ∧ idx = 31 ∧ nm = "NUMBER_FIRST") ∨ (j = 0 ∧ own = RX6 ∧ idx = 67 ∧ nm = "NUMBER_LEAST") ∨ (j = 1 ∧ own = RX6 ∧ idx = 70 ∧ nm = "NUMBER_MOST")) (hd : decode (mco μ) pc = .ok (.getstatic idx, 3)) (kk : J G μ (pc + 3) ls (.ref (1000 + j) :: st) I F) : J G μ pc ls st I F := by
  intro p e s m args below meth c B r hF H locs lsm hP hS hl1
  have hZ : va_Z RX8 nm "[I" (.ref (gad G (1000 + j))) (gA G) s s.heap ∧ va_Nw (.fieldLinkNest own idx RX8 nm "[I" RX8) s := by
    obtain ⟨h1, h2, h3⟩ := B.2.2.2.2.2.2.1.1
    obtain ⟨n1, n2, n3⟩ := B.2.2.2.2.2.2.1.2.2.2.2.2
    rcases hj with ⟨rfl, rfl, rfl, rfl⟩ | ⟨rfl, rfl, rfl, rfl⟩ | ⟨rfl, rfl, rfl, rfl⟩
    · exact ⟨h3, n1⟩
    · exact ⟨h1, n2⟩
    · exact ⟨h2, n3⟩
  exact va_getsN B.1 B.2.1 hZ.1 hS (by rw [← ho]; exact B.2.2.2.1) (va_tabs rfl rfl hZ.2) (fun _ h => h) hd (kk p e s m args below meth c B r hF H locs lsm hP hS hl1)
theorem J_eald {j : Nat} {i : Int32} (hj : j < 3) (hin : vp_in i 3) (hd : decode (mco μ) pc = .ok (.iaload, 1)) (kk : J G μ (pc + 1) ls (.int (exv j i.toNatClampNeg) :: st) I F) : J G μ pc ls (.int i :: .ref (1000 + j) :: st) I F :=
  fun p e s m args below meth c B r hF H locs lsm hP hS hl1 => va_ti B.1 B.2.1 (B.2.2.2.2.2.2.1.2.1 j hj) hS hin rfl hd (kk p e s m args below meth c B r hF H locs lsm hP hS hl1)
theorem J_tblIn {dflt lo hi : Int} {offs : Array Int} {len : Nat} {x : Int32} {off : Int} {tgt : Nat} (hd : decode (mco μ) pc = .ok (.tableswitch dflt lo hi offs, len)) (h1 : ¬ x.toInt < lo) (h2 : ¬ hi < x.toInt) (ho : offs[(x.toInt - lo).toNat]? = some off) (ht : (pc : Int) + off = (tgt : Int)) (kk : J G μ tgt ls st I F) : J G μ pc ls (.int x :: st) I F :=
  fun p e s m args below meth c B r hF H locs lsm hP hS hl1 => lv_tableIn B.1 B.2.1 hd h1 h2 ho ht (kk p e s m args below meth c B r hF H locs lsm hP hS hl1)
theorem J_tblOut {dflt lo hi : Int} {offs : Array Int} {len : Nat} {x : Int32} {tgt : Nat} (hd : decode (mco μ) pc = .ok (.tableswitch dflt lo hi offs, len)) (h : x.toInt < lo ∨ hi < x.toInt) (ht : (pc : Int) + dflt = (tgt : Int)) (kk : J G μ tgt ls st I F) : J G μ pc ls (.int x :: st) I F :=
  fun p e s m args below meth c B r hF H locs lsm hP hS hl1 => lv_tableOut B.1 B.2.1 hd h ht (kk p e s m args below meth c B r hF H locs lsm hP hS hl1)
theorem J_min {x y : Int32} {idx : Nat} (w1 : Cond.methodLink (mow μ) idx Lib.Math.min.name ∈ wsG) (w2 : Cond.static Lib.Math.min.name ∈ wsG) (w3 : Cond.initialized "java/lang/Math" ∈ wsG) (w4 : Cond.code Lib.Math.min.name Lib.Math.min.code 2 (some .int) ∈ wsG) (hR : 1 ≤ (mrm μ).frames ∧ ((st.map (tv G)).map fun v => v.category).sum + 13 ≤ (mrm μ).locals) (hce : mce μ ≤ (mrm μ).cells ∧ msl μ ≤ (mrm μ).slots) (hd : decode (mco μ) pc = .ok (.invokestatic idx, 3)) (kk : J G μ (pc + 3) ls (.int (if y < x then y else x) :: st) I F) : J G μ pc ls (.int y :: .int x :: st) I F :=
  fun p e s m args below meth c B r hF H locs lsm hP hS hl1 => va_mmin B.1 B.2.1 (by rw [B.2.2.1]; exact hl1.1.symm) B.2.2.2.1 (B.2.2.2.2.1 _ w1) (B.2.2.2.2.1 _ w2) (B.2.2.2.2.1 _ w3) (B.2.2.2.2.1 _ w4) hR.1 hR.2 hce.1 hce.2 hd (kk p e s m args below meth c B r hF H locs lsm hP hS hl1)
theorem J_max {x y : Int32} {idx : Nat} (w1 : Cond.methodLink (mow μ) idx Lib.Math.max.name ∈ wsG) (w2 : Cond.static Lib.Math.max.name ∈ wsG) (w3 : Cond.initialized "java/lang/Math" ∈ wsG) (w4 : Cond.code Lib.Math.max.name Lib.Math.max.code 2 (some .int) ∈ wsG) (hR : 1 ≤ (mrm μ).frames ∧ ((st.map (tv G)).map fun v => v.category).sum + 13 ≤ (mrm μ).locals) (hce : mce μ ≤ (mrm μ).cells ∧ msl μ ≤ (mrm μ).slots) (hd : decode (mco μ) pc = .ok (.invokestatic idx, 3)) (kk : J G μ (pc + 3) ls (.int (if x < y then y else x) :: st) I F) : J G μ pc ls (.int y :: .int x :: st) I F :=
  fun p e s m args below meth c B r hF H locs lsm hP hS hl1 => va_mmax B.1 B.2.1 (by rw [B.2.2.1]; exact hl1.1.symm) B.2.2.2.1 (B.2.2.2.2.1 _ w1) (B.2.2.2.2.1 _ w2) (B.2.2.2.2.1 _ w3) (B.2.2.2.2.1 _ w4) hR.1 hR.2 hce.1 hce.2 hd (kk p e s m args below meth c B r hF H locs lsm hP hS hl1)
end JK
/-! contracts -/
/-- a call's answer and memory go on -/
def bI {α : Type} (f : Option (Int32 × Mem)) (K : Int32 → Mem → Option α) : Option α := f.bind fun q => K q.1 q.2
def bV {α : Type} (f : Option Mem) (K : Mem → Option α) : Option α := f.bind K
/-- only if -/
def ck {α : Type} (b : Bool) (x : Option α) : Option α := if b = true then x else none
/-- a place of an array of n -/
def inb (i : Int32) (n : Nat) : Bool := decide (0 ≤ i) && decide (i.toNatClampNeg < n)
theorem inb_in {i : Int32} {n : Nat} (h : inb i n = true) : vp_in i n := by
  unfold inb at h
  rw [Bool.and_eq_true, decide_eq_true_eq, decide_eq_true_eq] at h
  exact fun q => q.elim (fun q => absurd h.1 (Int32.not_le.mpr q)) (fun q => absurd h.2 (Nat.not_lt.mpr q))
/-- a loop with fuel -/
def fx {τ : Type} (B : τ → τ) (z : τ) : Nat → τ
  | 0 => z
  | n + 1 => B (fx B z n)
def fuel : Nat := 5000
theorem nar01 {v : Int32} (h : (v == 0 || v == 1) = true) : narrow .boolean (.int v) = .int v := by
  rw [Bool.or_eq_true, beq_iff_eq, beq_iff_eq] at h
  rcases h with rfl | rfl <;> rfl
def Wd (G : Gt) (I : Mem) (U : State) : Prop := va_P (gD G) vwCl (wl G I) U.heap ∧ va_K (gD G) vwCl (gtys G) U
def Zi (G : Gt) : List Frame → Array Value → State → (Int32 × Mem) → State → Prop := fun below args s r => MQ below (va_Qi (fun (v : Int32) (u : Mem) => (v, u) = r) (Wd G) (gA G)) args s 0 0 (gA G)
def Zv (G : Gt) : List Frame → Array Value → State → Mem → State → Prop := fun below args s r => MQ below (va_Qv (fun (u : Mem) => u = r) (Wd G) (gA G)) args s 0 0 (gA G)
abbrev rmk (fr lo : Nat) : Room := { frames := fr, cells := 0, slots := 0, locals := lo }
def mi (G : Gt) (cc : ByteArray) (nl : Nat) (own : String) (rt : Option FieldType) (fr lo : Nat) : Mt (Int32 × Mem) := (cc, nl, own, rt, rmk fr lo, 0, 0, Zi G)
def mv (G : Gt) (cc : ByteArray) (nl : Nat) (own : String) (fr lo : Nat) : Mt Mem := (cc, nl, own, none, rmk fr lo, 0, 0, Zv G)
def Cti (G : Gt) (y : MethodName) (cc : ByteArray) (nl : Nat) (rt : Option FieldType) (fr lo : Nat) (as : List Value) (I : Mem) (F : Option (Int32 × Mem)) : Prop :=
  ∀ r : Int32 × Mem, F = some r → Met (gl G) y (.code y cc nl rt :: wsG) (rmk fr lo) (va_Pc (as.map (tv G)) (fun U => Wd G I U ∧ Ex G U)) (va_Qi (fun (v : Int32) (u : Mem) => (v, u) = r) (Wd G) (gA G)) 0 0 (gA G)
def Ctv (G : Gt) (y : MethodName) (cc : ByteArray) (nl : Nat) (fr lo : Nat) (as : List Value) (I : Mem) (F : Option Mem) : Prop :=
  ∀ r : Mem, F = some r → Met (gl G) y (.code y cc nl none :: wsG) (rmk fr lo) (va_Pc (as.map (tv G)) (fun U => Wd G I U ∧ Ex G U)) (va_Qv (fun (u : Mem) => u = r) (Wd G) (gA G)) 0 0 (gA G)
theorem Ex_warm {G : Gt} {s U : State} (hW : s.WarmedH U.vm) (hh : ∀ a : Nat, a < s.heap.size → ¬ gA G a → U.heap[a]? = s.heap[a]?) (h : Ex G s) : Ex G U := by
  obtain ⟨⟨a1, a2, a3⟩, b, ⟨c1, c2⟩, d, ⟨e1, e2, e3, e4⟩, n1, n2, n3⟩ := h
  have hv := hW.alike
  exact ⟨⟨(a1.moved hv).kept hh, (a2.moved hv).kept hh, (a3.moved hv).kept hh⟩, fun j hj => ((b j hj).moved hv).kept hh, ⟨(c1.moved hv).kept hh, c2.imp (fun q => (q.moved hv).kept hh) (fun q => (q.moved hv).kept hh)⟩, (d.moved hv).kept hh, ⟨e1.warm hW, e2.warm hW, e3.warm hW, e4.warm hW⟩, va_Nw.warmF hW n1, va_Nw.warmF hW n2, va_Nw.warmF hW n3⟩
theorem WE_blind {G : Gt} {I : Mem} {as : List Value} : FrameBlind (va_Pc (as.map (tv G)) (fun U => Wd G I U ∧ Ex G U)) := by
  intro a U g mk q
  obtain ⟨q0, ⟨qP, qK⟩, qE⟩ := q
  exact ⟨q0, ⟨qP, va_K.moved (u := U) (U := U.calling g mk a) (Vm.Alike.refl U.vm) qK⟩, Ex_warm (U := U.calling g mk a) (State.WarmedH.refl U) (fun _ _ _ => rfl) qE⟩
theorem WE_call {G : Gt} {I : Mem} {s U : State} {H : Heap} {locs : List Loc} (hU : U.heap = H) (hW : s.WarmedH U.vm) (hP : va_P (gD G) vwCl (wl G I) H) (hK : va_K (gD G) vwCl (gtys G) s) (hE : Ex G s) (hS : va_S (gA G) s.heap H locs) : Wd G I U ∧ Ex G U :=
  ⟨⟨by rw [hU]; exact hP, va_K.moved hW.alike hK⟩, Ex_warm hW (fun a h1 h2 => by rw [hU]; exact hS.2.1 a h1 h2) hE⟩
/-- the locals at the entry -/
def enl : List Value → List (Option Value)
  | [] => []
  | v :: r => if v.category = 2 then some v :: none :: enl r else some v :: enl r
theorem enl_args {G : Gt} (m : Nat) : ∀ (vs : List Value) (k : Nat), lvl G k (enl vs ++ List.replicate m none) = lv_args k (vs.map (tv G))
  | [], k => by
    have : ∀ (m k : Nat), lvl G k (List.replicate m none) = [] := by
      intro m
      induction m with
      | zero => intro k; rfl
      | succ m ih => intro k; exact ih (k + 1)
    exact this m k
  | v :: r, k => by
    show lvl G k ((if v.category = 2 then some v :: none :: enl r else some v :: enl r) ++ List.replicate m none) = (k, tv G v) :: lv_args (if (tv G v).category = 2 then k + 2 else k + 1) (r.map (tv G))
    rw [tv_cat]
    by_cases h : v.category = 2
    · rw [if_pos h, if_pos h, ← enl_args m r (k + 2)]
      rfl
    · rw [if_neg h, if_neg h, ← enl_args m r (k + 1)]
      rfl
theorem Cti.of {G : Gt} {y : MethodName} {cc : ByteArray} {nl : Nat} {rt : Option FieldType} {fr lo : Nat} {as : List Value} {I : Mem} {F : Option (Int32 × Mem)} {ls : List (Option Value)} (k : Nat) (hG : Gok G) (hy : plainName y.cls = true) (hls : enl as ++ List.replicate k none = ls) (hlen : (lg_sl (as.map (tv G))).length ≤ nl) (h : J G (mi G cc nl y.cls rt fr lo) 0 ls [] I F) : Cti G y cc nl rt fr lo as I F := by
  intro r hF
  refine Met.ofW (cc := cc) (maxL := nl) (ret := rt) hy rfl ?_
  intro p e s m args below meth c s₁ B hml hv
  obtain ⟨rfl, ⟨hP, hK⟩, hEx⟩ := hv
  have hts := atoms_spec (ws := .code y cc nl rt :: wsG) B.pre
  have hown : s.vm.findClass y.cls = some m.cls := findClass_of_methodNamed B.named
  rw [lg_entry_eq]
  have hl := lv_entry (as.map (tv G)) hlen
  rw [← enl_args (G := G) k as 0, hls] at hl
  exact h p e s m _ below meth c ⟨B.exec, B.bytes, hml, hown, fun w hw => hts w (List.mem_cons_of_mem _ hw), hK, hEx, hG, B.returns, B.notSynchronized⟩ r hF s.heap [] _ hP va_S.rf hl
theorem Ctv.of {G : Gt} {y : MethodName} {cc : ByteArray} {nl : Nat} {fr lo : Nat} {as : List Value} {I : Mem} {F : Option Mem} {ls : List (Option Value)} (k : Nat) (hG : Gok G) (hy : plainName y.cls = true) (hls : enl as ++ List.replicate k none = ls) (hlen : (lg_sl (as.map (tv G))).length ≤ nl) (h : J G (mv G cc nl y.cls fr lo) 0 ls [] I F) : Ctv G y cc nl fr lo as I F := by
  intro r hF
  refine Met.ofW (cc := cc) (maxL := nl) (ret := none) hy rfl ?_
  intro p e s m args below meth c s₁ B hml hv
  obtain ⟨rfl, ⟨hP, hK⟩, hEx⟩ := hv
  have hts := atoms_spec (ws := .code y cc nl none :: wsG) B.pre
  have hown : s.vm.findClass y.cls = some m.cls := findClass_of_methodNamed B.named
  rw [lg_entry_eq]
  have hl := lv_entry (as.map (tv G)) hlen
  rw [← enl_args (G := G) k as 0, hls] at hl
  exact h p e s m _ below meth c ⟨B.exec, B.bytes, hml, hown, fun w hw => hts w (List.mem_cons_of_mem _ hw), hK, hEx, hG, B.returns, B.notSynchronized⟩ r hF s.heap [] _ hP va_S.rf hl
section JC
variable {α : Type} {G : Gt} {μ : Mt α} {pc : Nat} {ls : List (Option Value)} {st st0 : List Value} {I : Mem}
theorem J_iret {cc : ByteArray} {nl fr lo : Nat} {own : String} {v : Int32} (hd : decode cc pc = .ok (.ireturn, 1)) : J G (mi G cc nl own (some .int) fr lo) pc ls [.int v] I (some (v, I)) := by
  intro p e s m args below meth c B r hF H locs lsm hP hS hl1
  cases hF
  exact W.iret B.1 B.2.1 B.2.2.2.2.2.2.2.2.1 (fun t ht hW => ⟨⟨v, I, rfl, rfl, by rw [ht]; exact hP, va_K.moved hW.alike B.2.2.2.2.2.1⟩, hS.F ht⟩) hS.2.2 hd B.2.2.2.2.2.2.2.2.2
theorem J_zret {cc : ByteArray} {nl fr lo : Nat} {own : String} {v : Int32} {ty : FieldType} (hn : narrow ty (.int v) = .int v) (hd : decode cc pc = .ok (.ireturn, 1)) : J G (mi G cc nl own (some ty) fr lo) pc ls [.int v] I (some (v, I)) := by
  intro p e s m args below meth c B r hF H locs lsm hP hS hl1
  cases hF
  exact W.zret B.1 B.2.1 B.2.2.2.2.2.2.2.2.1 hn (fun t ht hW => ⟨⟨v, I, rfl, rfl, by rw [ht]; exact hP, va_K.moved hW.alike B.2.2.2.2.2.1⟩, hS.F ht⟩) hS.2.2 hd B.2.2.2.2.2.2.2.2.2
theorem J_vret {cc : ByteArray} {nl fr lo : Nat} {own : String} (hd : decode cc pc = .ok (.return_, 1)) : J G (mv G cc nl own fr lo) pc ls [] I (some I) := by
  intro p e s m args below meth c B r hF H locs lsm hP hS hl1
  cases hF
  exact W.vret B.1 B.2.1 B.2.2.2.2.2.2.2.2.1 (fun t ht hW => ⟨⟨I, rfl, rfl, by rw [ht]; exact hP, va_K.moved hW.alike B.2.2.2.2.2.1⟩, hS.F ht⟩) hS.2.2 hd B.2.2.2.2.2.2.2.2.2
/-- the words of a call -/
def CW {α : Type} (μ : Mt α) (idx : Nat) (y : MethodName) (cc : ByteArray) (nl : Nat) (rt : Option FieldType) (n : Nat) : Prop :=
  Cond.methodLink (mow μ) idx y ∈ wsG ∧ Cond.initialized y.cls ∈ wsG ∧ Cond.code y cc nl rt ∈ wsG ∧ (y.cls ≠ "java/lang/invoke/MethodHandle" ∧ y.cls ≠ "java/lang/invoke/VarHandle") ∧ (parseMethodDescriptor y.desc).map (fun d => d.parameters.length) = some n
def CR {α : Type} (μ : Mt α) (nl fr lo : Nat) : Prop := fr + 1 ≤ (mrm μ).frames ∧ 8 + (nl + 11) + lo ≤ (mrm μ).locals ∧ mce μ ≤ (mrm μ).cells ∧ msl μ ≤ (mrm μ).slots
theorem CW.B {idx nl fr lo n : Nat} {y : MethodName} {cc : ByteArray} {rt : Option FieldType} {p : Program} {s : State} {m : MethodId} {args : Array Value} {meth : Method} {c : Code} (h : CW μ idx y cc nl rt n) (hR : CR μ nl fr lo) (B : Bx G μ p s m args meth c) : CallB (mrm μ) s args (mow μ) idx y cc nl rt (.code y cc nl rt :: wsG) (rmk fr lo) 0 0 n := by
  obtain ⟨h1, h2, h3, h4, h5⟩ := h
  have hts := B.2.2.2.2.1
  exact callB_of n hts (fun w hw => by
    rcases List.mem_cons.mp hw with rfl | hw
    · exact wsG_good _ h3
    · exact wsG_good _ hw) rfl rfl rfl (hts _ h2) (hts _ h1) ⟨h4.1, h4.2, h5⟩ ⟨hR.1, hR.2.1⟩
theorem J_callVi {a t idx nl fr lo n : Nat} {q : vw_C} {as : List Value} {y : MethodName} {cc : ByteArray} {rt : Option FieldType} {f : Option (Int32 × Mem)} {K : Int32 → Mem → Option α} (hC : Cti G y cc nl rt fr lo (.ref a :: as) I f) (ho : ok G a t) (ht : t < 10) (hc : vwCl[t]? = some q) (hw : CW μ idx y cc nl rt n) (w1 : Cond.instanceMethod y ∈ wsG) (w2 : Cond.selects q.1 y y ∈ wsG) (hn : as.length = n) (hR : CR μ nl fr lo) (hcat : ((st.map (tv G)).map fun v => v.category).sum ≤ 8) (hst : st0.map (tv G) = (as.map (tv G)).reverse ++ .ref (gad G a) :: st.map (tv G)) (hd : decode (mco μ) pc = .ok (.invokevirtual idx, 3))
    (kk : ∀ (v : Int32) (I1 : Mem), J G μ (pc + 3) ls (.int v :: st) I1 (K v I1)) : J G μ pc ls st0 I (bI f K) := by
  intro p e s m args below meth c B r hF H locs lsm hP hS hl1
  obtain ⟨⟨v, I1⟩, hf, hF⟩ := Option.bind_eq_some_iff.mp hF
  rw [hst]
  refine va_calli (va_runV (As := as.map (tv G)) (rest := st.map (tv G)) ⟨B.1, B.2.1, B.2.2.1, B.2.2.2.1, B.2.2.2.2.1⟩ (hC _ hf) ⟨hw.B hR B, B.2.2.2.2.1 _ w1, B.2.2.2.2.1 _ w2⟩ ⟨WE_blind, va_recv B.2.2.2.2.2.1 hP hc (ok_obj ho ht), fun U hU hW => ⟨rfl, WE_call hU hW hP B.2.2.2.2.2.1 B.2.2.2.2.2.2.1 hS⟩⟩ rfl (by rw [List.length_map]; exact hn) hl1.1 rfl (lv_room hcat) hd ⟨by rw [Nat.add_zero]; exact hR.2.2.1, by rw [Nat.add_zero]; exact hR.2.2.2⟩) hS (fun _ _ h => h) (fun _ h => h) (fun v' u t H1 locs1 ht hvm hpost hB hz hk hS1 => ?_)
  cases hpost
  exact kk v I1 p e s m args below meth c B r hF H1 locs1 lsm (by rw [← ht]; exact hB.1) hS1 hl1
theorem J_callVv {a t idx nl fr lo n : Nat} {q : vw_C} {as : List Value} {y : MethodName} {cc : ByteArray} {f : Option Mem} {K : Mem → Option α} (hC : Ctv G y cc nl fr lo (.ref a :: as) I f) (ho : ok G a t) (ht : t < 10) (hc : vwCl[t]? = some q) (hw : CW μ idx y cc nl none n) (w1 : Cond.instanceMethod y ∈ wsG) (w2 : Cond.selects q.1 y y ∈ wsG) (hn : as.length = n) (hR : CR μ nl fr lo) (hcat : ((st.map (tv G)).map fun v => v.category).sum ≤ 8) (hst : st0.map (tv G) = (as.map (tv G)).reverse ++ .ref (gad G a) :: st.map (tv G)) (hd : decode (mco μ) pc = .ok (.invokevirtual idx, 3))
    (kk : ∀ (I1 : Mem), J G μ (pc + 3) ls st I1 (K I1)) : J G μ pc ls st0 I (bV f K) := by
  intro p e s m args below meth c B r hF H locs lsm hP hS hl1
  obtain ⟨I1, hf, hF⟩ := Option.bind_eq_some_iff.mp hF
  rw [hst]
  refine va_callv (va_runV (As := as.map (tv G)) (rest := st.map (tv G)) ⟨B.1, B.2.1, B.2.2.1, B.2.2.2.1, B.2.2.2.2.1⟩ (hC _ hf) ⟨hw.B hR B, B.2.2.2.2.1 _ w1, B.2.2.2.2.1 _ w2⟩ ⟨WE_blind, va_recv B.2.2.2.2.2.1 hP hc (ok_obj ho ht), fun U hU hW => ⟨rfl, WE_call hU hW hP B.2.2.2.2.2.1 B.2.2.2.2.2.2.1 hS⟩⟩ rfl (by rw [List.length_map]; exact hn) hl1.1 rfl (lv_room hcat) hd ⟨by rw [Nat.add_zero]; exact hR.2.2.1, by rw [Nat.add_zero]; exact hR.2.2.2⟩) hS (fun _ _ h => h) (fun _ h => h) (fun u t H1 locs1 ht hvm hpost hB hz hk hS1 => ?_)
  cases hpost
  exact kk I1 p e s m args below meth c B r hF H1 locs1 lsm (by rw [← ht]; exact hB.1) hS1 hl1
theorem J_callSi {idx nl fr lo n : Nat} {as : List Value} {y : MethodName} {cc : ByteArray} {rt : Option FieldType} {f : Option (Int32 × Mem)} {K : Int32 → Mem → Option α} (hC : Cti G y cc nl rt fr lo as I f) (hw : CW μ idx y cc nl rt n) (w1 : Cond.static y ∈ wsG) (hn : as.length = n) (hR : CR μ nl fr lo) (hcat : ((st.map (tv G)).map fun v => v.category).sum ≤ 8) (hst : st0.map (tv G) = (as.map (tv G)).reverse ++ st.map (tv G)) (hd : decode (mco μ) pc = .ok (.invokestatic idx, 3))
    (kk : ∀ (v : Int32) (I1 : Mem), J G μ (pc + 3) ls (.int v :: st) I1 (K v I1)) : J G μ pc ls st0 I (bI f K) := by
  intro p e s m args below meth c B r hF H locs lsm hP hS hl1
  obtain ⟨⟨v, I1⟩, hf, hF⟩ := Option.bind_eq_some_iff.mp hF
  rw [hst]
  refine va_calli (va_runS (As := as.map (tv G)) (rest := st.map (tv G)) ⟨B.1, B.2.1, B.2.2.1, B.2.2.2.1, B.2.2.2.2.1⟩ (hC _ hf) ⟨hw.B hR B, B.2.2.2.2.1 _ w1⟩ ⟨WE_blind, fun U hU hW => ⟨rfl, WE_call hU hW hP B.2.2.2.2.2.1 B.2.2.2.2.2.2.1 hS⟩⟩ rfl (by rw [List.length_map]; exact hn) hl1.1 rfl (lv_room hcat) hd ⟨by rw [Nat.add_zero]; exact hR.2.2.1, by rw [Nat.add_zero]; exact hR.2.2.2⟩) hS (fun _ _ h => h) (fun _ h => h) (fun v' u t H1 locs1 ht hvm hpost hB hz hk hS1 => ?_)
  cases hpost
  exact kk v I1 p e s m args below meth c B r hF H1 locs1 lsm (by rw [← ht]; exact hB.1) hS1 hl1
theorem J_callSv {idx nl fr lo n : Nat} {as : List Value} {y : MethodName} {cc : ByteArray} {f : Option Mem} {K : Mem → Option α} (hC : Ctv G y cc nl fr lo as I f) (hw : CW μ idx y cc nl none n) (w1 : Cond.static y ∈ wsG) (hn : as.length = n) (hR : CR μ nl fr lo) (hcat : ((st.map (tv G)).map fun v => v.category).sum ≤ 8) (hst : st0.map (tv G) = (as.map (tv G)).reverse ++ st.map (tv G)) (hd : decode (mco μ) pc = .ok (.invokestatic idx, 3))
    (kk : ∀ (I1 : Mem), J G μ (pc + 3) ls st I1 (K I1)) : J G μ pc ls st0 I (bV f K) := by
  intro p e s m args below meth c B r hF H locs lsm hP hS hl1
  obtain ⟨I1, hf, hF⟩ := Option.bind_eq_some_iff.mp hF
  rw [hst]
  refine va_callv (va_runS (As := as.map (tv G)) (rest := st.map (tv G)) ⟨B.1, B.2.1, B.2.2.1, B.2.2.2.1, B.2.2.2.2.1⟩ (hC _ hf) ⟨hw.B hR B, B.2.2.2.2.1 _ w1⟩ ⟨WE_blind, fun U hU hW => ⟨rfl, WE_call hU hW hP B.2.2.2.2.2.1 B.2.2.2.2.2.2.1 hS⟩⟩ rfl (by rw [List.length_map]; exact hn) hl1.1 rfl (lv_room hcat) hd ⟨by rw [Nat.add_zero]; exact hR.2.2.1, by rw [Nat.add_zero]; exact hR.2.2.2⟩) hS (fun _ _ h => h) (fun _ h => h) (fun u t H1 locs1 ht hvm hpost hB hz hk hS1 => ?_)
  cases hpost
  exact kk I1 p e s m args below meth c B r hF H1 locs1 lsm (by rw [← ht]; exact hB.1) hS1 hl1
end JC
section JX
variable {α : Type} {G : Gt} {μ : Mt α} {pc : Nat} {ls : List (Option Value)} {st st0 : List Value} {I : Mem} {F : Option α}
theorem J_ck {b : Bool} (k : b = true → J G μ pc ls st I F) : J G μ pc ls st I (ck b F) := J_chk k
/-- a call that answers and leaves the memory: on a String constant -/
theorem J_str {j idx nl fr lo n : Nat} {as : List Value} {y : MethodName} {cc : ByteArray} {rt : Option FieldType} {w : Int32} (hC : Cti G y cc nl rt fr lo (.ref (1010 + j) :: as) I (some (w, I))) (hj : j < 3) (hw : CW μ idx y cc nl rt n) (w1 : Cond.instanceMethod y ∈ wsG) (w2 : Cond.selects "java/lang/String" y y ∈ wsG) (hn : as.length = n) (hR : CR μ nl fr lo) (hcat : ((st.map (tv G)).map fun v => v.category).sum ≤ 8) (hst : st0.map (tv G) = (as.map (tv G)).reverse ++ .ref (gad G (1010 + j)) :: st.map (tv G)) (hd : decode (mco μ) pc = .ok (.invokevirtual idx, 3))
    (kk : J G μ (pc + 3) ls (.int w :: st) I F) : J G μ pc ls st0 I F := by
  intro p e s m args below meth c B r hF H locs lsm hP hS hl1
  rw [hst]
  refine va_calli (va_runV (As := as.map (tv G)) (rest := st.map (tv G)) ⟨B.1, B.2.1, B.2.2.1, B.2.2.2.1, B.2.2.2.2.1⟩ (hC _ rfl) ⟨hw.B hR B, B.2.2.2.2.1 _ w1, B.2.2.2.2.1 _ w2⟩ ⟨WE_blind, vk_recv B.2.2.2.2.2.2.1.2.2.2.1 hj hS, fun U hU hW => ⟨rfl, WE_call hU hW hP B.2.2.2.2.2.1 B.2.2.2.2.2.2.1 hS⟩⟩ rfl (by rw [List.length_map]; exact hn) hl1.1 rfl (lv_room hcat) hd ⟨by rw [Nat.add_zero]; exact hR.2.2.1, by rw [Nat.add_zero]; exact hR.2.2.2⟩) hS (fun _ _ h => h) (fun _ h => h) (fun v' u t H1 locs1 ht hvm hpost hB hz hk hS1 => ?_)
  cases hpost
  exact kk p e s m args below meth c B r hF H1 locs1 lsm (by rw [← ht]; exact hB.1) hS1 hl1
theorem J_ldcS (j : Nat) {idx : Nat} {own tx : String} (ho : mow μ = own) (hj : (j = 0 ∧ own = RX6 ∧ idx = 34 ∧ tx = "ncm") ∨ (j = 1 ∧ own = RX6 ∧ idx = 76 ∧ tx = "blrt") ∨ (j = 1 ∧ own = RX8 ∧ idx = 152 ∧ tx = "blrt") ∨ (j = 2 ∧ own = RX8 ∧ idx = 61 ∧ tx = "kl;krbl;ktr;n30;p1,14;")) (hd : decode (mco μ) pc = .ok (.ldc idx, 2)) (kk : J G μ (pc + 2) ls (.ref (1010 + j) :: st) I F) : J G μ pc ls st I F := by
  intro p e s m args below meth c B r hF H locs lsm hP hS hl1
  have hZ : vk_R own idx tx (gad G (1010 + j)) s := by
    obtain ⟨h1, h2, h3, h4⟩ := B.2.2.2.2.2.2.1.2.2.2.2.1
    rcases hj with ⟨rfl, rfl, rfl, rfl⟩ | ⟨rfl, rfl, rfl, rfl⟩ | ⟨rfl, rfl, rfl, rfl⟩ | ⟨rfl, rfl, rfl, rfl⟩
    · exact h1
    · exact h2
    · exact h3
    · exact h4
  exact va_ldcS B.1 B.2.1 (by rw [← ho]; exact B.2.2.2.1) hZ hd (kk p e s m args below meth c B r hF H locs lsm hP hS hl1)
end JX
/-- the class's cells, or all -/
def Gn (G : Gt) : Prop := gn G = 89 ∨ gn G = 104
theorem ok_c {G : Gt} (hn : Gn G) (i : Nat) {t : Nat} (h : i < 89) (ht : stag i = t) : ok G i t := ⟨by rcases hn with h1 | h1 <;> omega, ht⟩
theorem ok_m {G : Gt} (hn : gn G = 104) (i : Nat) {t : Nat} (h : i < 104) (ht : stag i = t) : ok G i t := ⟨by omega, ht⟩
theorem ok_off {G : Gt} (hn : Gn G) {a t : Nat} (k : Nat) {t' : Nat} (h : ok G a t) (hc : (List.range 104).all (fun i => !(stag i == t) || (stag (i + k) == t' && (decide (89 ≤ i + k) == decide (89 ≤ i)) && decide (i + k < 104))) = true) : ok G (a + k) t' := by
  have ha : a < 104 := by rcases hn with h1 | h1 <;> (have := h.1; omega)
  have h2 := List.all_eq_true.mp hc a (List.mem_range.mpr ha)
  rw [h.2] at h2
  simp only [BEq.rfl, Bool.not_true, Bool.false_or, Bool.and_eq_true, beq_iff_eq, decide_eq_true_eq, decide_eq_decide] at h2
  refine ⟨?_, h2.1.1⟩
  have := h.1
  have := h2.1.2
  have := h2.2
  rcases hn with h1 | h1 <;> omega
theorem ok_told {G : Gt} (hn : Gn G) {x : Nat} (h : (stag x == 7) = true) : ok G x 7 := by
  have h7 := beq_iff_eq.mp h
  have hx : x < 89 := by
    rcases Nat.lt_or_ge x 104 with h1 | h1
    · have h2 := List.all_eq_true.mp (show (List.range 104).all (fun i => !(stag i == 7) || decide (i < 89)) = true by decide +kernel) x (List.mem_range.mpr h1)
      rw [h7] at h2
      simpa using h2
    · have h3 : stag x = 99 := by
        unfold stag
        rw [List.getD_eq_getElem?_getD, List.getElem?_eq_none (by exact h1)]
        rfl
      rw [h3] at h7
      cases h7
  exact ok_c hn x hx h7
theorem ok_sheet {G : Gt} (hn : Gn G) {i : Int32} (h : inb i 4 = true) : ok G (54 + 4 * i.toNatClampNeg) 5 := by
  have h1 : i.toNatClampNeg < 4 := Nat.not_le.mp fun q => inb_in h (Or.inr q)
  generalize i.toNatClampNeg = k at h1
  refine ok_c hn _ (by omega) ?_
  match k, h1 with
  | 0, _ => rfl
  | 1, _ => rfl
  | 2, _ => rfl
  | 3, _ => rfl
theorem ok_least {G : Gt} (hn : Gn G) {i : Int32} (h : inb i 5 = true) : ok G (78 + i.toNatClampNeg) 22 := by
  have h1 : i.toNatClampNeg < 5 := Nat.not_le.mp fun q => inb_in h (Or.inr q)
  generalize i.toNatClampNeg = k at h1
  refine ok_c hn _ (by omega) ?_
  match k, h1 with
  | 0, _ => rfl
  | 1, _ => rfl
  | 2, _ => rfl
  | 3, _ => rfl
  | 4, _ => rfl
/-! rows for the printed walks -/
abbrev tn (i : Int32) : Nat := i.toNatClampNeg
def iT (t : Nat) : Prop := ¬ t < 10 ∧ ¬ t = 10 ∧ ¬ t = 43 ∧ ¬ t = 16 ∧ ¬ t = 17 ∧ ¬ t = 21
theorem pfI : parseFieldDescriptor "I" = some .int := by decide +kernel
theorem nz {y : Int32} (h : (!(y == 0)) = true) : ¬ y = 0 := by
  intro e
  rw [e] at h
  simp at h
theorem ne_int {x c : Int32} {z : Int} (h : ¬ x = c) (hc : c.toInt = z) : x.toInt ≠ z := fun e => h (Int32.toInt_inj.mp (e.trans hc.symm))
theorem lt31 {G : Gt} (hn : Gn G) {v t : Nat} (h : ok G v t) : v < 2 ^ 31 := by
  have := h.1
  rcases hn with h1 | h1 <;> omega
section JY
variable {α : Type} {G : Gt} {μ : Mt α} {pc : Nat} {ls : List (Option Value)} {st : List Value} {I : Mem} {F : Option α}
theorem J_ild {a t k : Nat} {i : Int32} (ho : ok G a t) (hT : iT t) (hin : vp_in i (slen t)) (hk : i.toNatClampNeg = k) (hd : decode (mco μ) pc = .ok (.iaload, 1)) (kk : J G μ (pc + 1) ls (.int (I a k) :: st) I F) : J G μ pc ls (.int i :: .ref a :: st) I F := by
  subst hk
  exact J_iald ho hT.1 hT.2.1 hT.2.2.1 hT.2.2.2.1 hT.2.2.2.2.1 hT.2.2.2.2.2 hin hd kk
theorem J_ist {a t k : Nat} {i x : Int32} (ho : ok G a t) (hT : iT t) (hin : vp_in i (slen t)) (hk : i.toNatClampNeg = k) (hd : decode (mco μ) pc = .ok (.iastore, 1)) (kk : J G μ (pc + 1) ls st (stm I a k x) F) : J G μ pc ls (.int x :: .int i :: .ref a :: st) I F := by
  subst hk
  exact J_iast ho hT.1 hT.2.1 hT.2.2.1 hT.2.2.2.1 hT.2.2.2.2.1 hT.2.2.2.2.2 hin hd kk
theorem J_cld {a k : Nat} {i : Int32} (ho : ok G a 10) (hin : vp_in i 200) (hk : i.toNatClampNeg = k) (hd : decode (mco μ) pc = .ok (.caload, 1)) (kk : J G μ (pc + 1) ls (.int (I a k) :: st) I F) : J G μ pc ls (.int i :: .ref a :: st) I F := by
  subst hk
  exact J_cald ho hin hd kk
theorem J_cst {a k : Nat} {i x : Int32} (ho : ok G a 10) (hin : vp_in i 200) (hk : i.toNatClampNeg = k) (hd : decode (mco μ) pc = .ok (.castore, 1)) (kk : J G μ (pc + 1) ls st (stm I a k (vp_nar .char x)) F) : J G μ pc ls (.int x :: .int i :: .ref a :: st) I F := by
  subst hk
  exact J_cast ho hin hd kk
theorem J_zld {a k : Nat} {i : Int32} (ho : ok G a 43) (hin : vp_in i 440) (hk : i.toNatClampNeg = k) (hd : decode (mco μ) pc = .ok (.baload, 1)) (kk : J G μ (pc + 1) ls (.int (I a k) :: st) I F) : J G μ pc ls (.int i :: .ref a :: st) I F := by
  subst hk
  exact J_zald ho hin hd kk
theorem J_zst {a k : Nat} {i x : Int32} (ho : ok G a 43) (hin : vp_in i 440) (hk : i.toNatClampNeg = k) (hd : decode (mco μ) pc = .ok (.bastore, 1)) (kk : J G μ (pc + 1) ls st (stm I a k (vp_nar .boolean x)) F) : J G μ pc ls (.int x :: .int i :: .ref a :: st) I F := by
  subst hk
  exact J_zast ho hin hd kk
theorem J_kld {a k : Nat} {i : Int32} (ho : ok G a 16) (hin : vp_in i 6) (hk : i.toNatClampNeg = k) (hd : decode (mco μ) pc = .ok (.aaload, 1)) (kk : J G μ (pc + 1) ls (.ref (tn (I a k)) :: st) I F) : J G μ pc ls (.int i :: .ref a :: st) I F := by
  subst hk
  exact J_kald ho hin hd kk
theorem J_kst {a v k : Nat} {i : Int32} (ho : ok G a 16) (hv : ok G v 7) (hv31 : v < 2 ^ 31) (hin : vp_in i 6) (hk : i.toNatClampNeg = k) (hd : decode (mco μ) pc = .ok (.aastore, 1)) (kk : J G μ (pc + 1) ls st (stm I a k (nI v)) F) : J G μ pc ls (.ref v :: .int i :: .ref a :: st) I F := by
  subst hk
  exact J_kast ho hv hv31 hin hd kk
theorem J_eld {j k : Nat} {i : Int32} (hj : j < 3) (hin : vp_in i 3) (hk : i.toNatClampNeg = k) (hd : decode (mco μ) pc = .ok (.iaload, 1)) (kk : J G μ (pc + 1) ls (.int (exv j k) :: st) I F) : J G μ pc ls (.int i :: .ref (1000 + j) :: st) I F := by
  subst hk
  exact J_eald hj hin hd kk
theorem J_aln {a t : Nat} {v : Int32} (ho : ok G a t) (hT : iT t) (hv : Int32.ofNat (slen t) = v) (hd : decode (mco μ) pc = .ok (.arraylength, 1)) (kk : J G μ (pc + 1) ls (.int v :: st) I F) : J G μ pc ls (.ref a :: st) I F := by
  subst hv
  exact J_alen ho hT.1 hT.2.1 hT.2.2.1 hT.2.2.2.1 hT.2.2.2.2.1 hT.2.2.2.2.2 hd kk
end JY
/-! Strings -/
theorem nar_c {x : Int32} : narrow .char (.int (x.toUInt32 % 65536).toInt32) = .int (x.toUInt32 % 65536).toInt32 := by
  show Value.int _ = _
  congr 1
  apply Int32.toBitVec_inj.mp
  apply BitVec.eq_of_toNat_eq
  simp
theorem nar_v {v : Int32} (h : (vp_nar .char v == v) = true) : narrow .char (.int v) = .int v := by
  have e := beq_iff_eq.mp h
  unfold vp_nar at e
  show Value.int _ = _
  congr 1
section JS
variable {α : Type} {G : Gt} {μ : Mt α} {pc : Nat} {ls : List (Option Value)} {st : List Value} {I : Mem} {F : Option α}
theorem J_gcs {idx : Nat} (hl : Cond.fieldLink (mow μ) idx RJ0 "COMPACT_STRINGS" "Z" ∈ wsG) (hd : decode (mco μ) pc = .ok (.getstatic idx, 3)) (kk : J G μ (pc + 3) ls (.int 1 :: st) I F) : J G μ pc ls st I F :=
  fun p e s m args below meth c B r hF H locs lsm hP hS hl1 => va_gets B.1 B.2.1 B.2.2.2.2.2.2.1.2.2.1.1 hS B.2.2.2.1 (B.2.2.2.2.1 _ hl) (fun _ h => h) hd (kk p e s m args below meth c B r hF H locs lsm hP hS hl1)
theorem J_gfm {idx : Nat} (hl : Cond.fieldLink (mow μ) idx RJ3 "SIOOBE_FORMATTER" "Ljava/util/function/BiFunction;" ∈ wsG) (hd : decode (mco μ) pc = .ok (.getstatic idx, 3)) (k1 : J G μ (pc + 3) ls (.null :: st) I F) (k2 : J G μ (pc + 3) ls (.ref 1030 :: st) I F) : J G μ pc ls st I F := by
  intro p e s m args below meth c B r hF H locs lsm hP hS hl1
  rcases B.2.2.2.2.2.2.1.2.2.1.2 with hZ | hZ
  · exact va_gets B.1 B.2.1 hZ hS B.2.2.2.1 (B.2.2.2.2.1 _ hl) (fun _ h => h) hd (k1 p e s m args below meth c B r hF H locs lsm hP hS hl1)
  · exact va_gets B.1 B.2.1 hZ hS B.2.2.2.1 (B.2.2.2.2.1 _ hl) (fun _ h => h) hd (k2 p e s m args below meth c B r hF H locs lsm hP hS hl1)
theorem J_gco {idx j : Nat} (hj : j < 3) (hl : Cond.fieldLink (mow μ) idx RJ0 "coder" "B" ∈ wsG) (hd : decode (mco μ) pc = .ok (.getfield idx, 3)) (kk : J G μ (pc + 3) ls (.int 0 :: st) I F) : J G μ pc ls (.ref (1010 + j) :: st) I F :=
  fun p e s m args below meth c B r hF H locs lsm hP hS hl1 => vk_getf B.1 B.2.1 (B.2.2.2.2.2.2.1.2.2.2.1.1 j hj).2.1 hS B.2.2.2.1 (B.2.2.2.2.1 _ hl) (fun _ h => h) hd (kk p e s m args below meth c B r hF H locs lsm hP hS hl1)
theorem J_gva {idx j : Nat} (hj : j < 3) (hl : Cond.fieldLink (mow μ) idx RJ0 "value" "[B" ∈ wsG) (hd : decode (mco μ) pc = .ok (.getfield idx, 3)) (kk : J G μ (pc + 3) ls (.ref (1020 + j) :: st) I F) : J G μ pc ls (.ref (1010 + j) :: st) I F :=
  fun p e s m args below meth c B r hF H locs lsm hP hS hl1 => vk_getf B.1 B.2.1 (B.2.2.2.2.2.2.1.2.2.2.1.1 j hj).2.2.1 hS B.2.2.2.1 (B.2.2.2.2.1 _ hl) (fun _ h => h) hd (kk p e s m args below meth c B r hF H locs lsm hP hS hl1)
theorem J_bld {j k : Nat} {i : Int32} (hj : j < 3) (hin : vp_in i (sln.getD j 0)) (hk : i.toNatClampNeg = k) (hd : decode (mco μ) pc = .ok (.baload, 1)) (kk : J G μ (pc + 1) ls (.int ((sby.getD j []).getD k 0) :: st) I F) : J G μ pc ls (.int i :: .ref (1020 + j) :: st) I F := by
  subst hk
  exact fun p e s m args below meth c B r hF H locs lsm hP hS hl1 => va_tb B.1 B.2.1 (B.2.2.2.2.2.2.1.2.2.2.1.1 j hj).2.2.2 hS hin rfl hd (kk p e s m args below meth c B r hF H locs lsm hP hS hl1)
theorem J_tln {j : Nat} (hj : j < 3) (hd : decode (mco μ) pc = .ok (.arraylength, 1)) (kk : J G μ (pc + 1) ls (.int (nI (sln.getD j 0)) :: st) I F) : J G μ pc ls (.ref (1020 + j) :: st) I F :=
  fun p e s m args below meth c B r hF H locs lsm hP hS hl1 => va_tlen B.1 B.2.1 (B.2.2.2.2.2.2.1.2.2.2.1.1 j hj).2.2.2 hS rfl hd (kk p e s m args below meth c B r hF H locs lsm hP hS hl1)
theorem J_popN (hd : decode (mco μ) pc = .ok (.pop, 1)) (k : J G μ (pc + 1) ls st I F) : J G μ pc ls (.null :: st) I F :=
  fun p e s m args below meth c B r hF H locs lsm hP hS hl => lv_pop B.1 B.2.1 hd rfl (k p e s m args below meth c B r hF H locs lsm hP hS hl)
end JS
section JT
variable {α : Type} {G : Gt} {μ : Mt α} {pc : Nat} {ls : List (Option Value)} {st st0 : List Value} {I : Mem}
/-- a call on a String constant, inside the JDK -/
theorem J_callTi {j idx nl fr lo n : Nat} {as : List Value} {y : MethodName} {cc : ByteArray} {rt : Option FieldType} {f : Option (Int32 × Mem)} {K : Int32 → Mem → Option α} (hC : Cti G y cc nl rt fr lo (.ref (1010 + j) :: as) I f) (hj : j < 3) (hw : CW μ idx y cc nl rt n) (w1 : Cond.instanceMethod y ∈ wsG) (w2 : Cond.selects "java/lang/String" y y ∈ wsG) (hn : as.length = n) (hR : CR μ nl fr lo) (hcat : ((st.map (tv G)).map fun v => v.category).sum ≤ 8) (hst : st0.map (tv G) = (as.map (tv G)).reverse ++ .ref (gad G (1010 + j)) :: st.map (tv G)) (hd : decode (mco μ) pc = .ok (.invokevirtual idx, 3))
    (kk : ∀ (v : Int32) (I1 : Mem), J G μ (pc + 3) ls (.int v :: st) I1 (K v I1)) : J G μ pc ls st0 I (bI f K) := by
  intro p e s m args below meth c B r hF H locs lsm hP hS hl1
  obtain ⟨⟨v, I1⟩, hf, hF⟩ := Option.bind_eq_some_iff.mp hF
  rw [hst]
  refine va_calli (va_runV (As := as.map (tv G)) (rest := st.map (tv G)) ⟨B.1, B.2.1, B.2.2.1, B.2.2.2.1, B.2.2.2.2.1⟩ (hC _ hf) ⟨hw.B hR B, B.2.2.2.2.1 _ w1, B.2.2.2.2.1 _ w2⟩ ⟨WE_blind, vk_recv B.2.2.2.2.2.2.1.2.2.2.1 hj hS, fun U hU hW => ⟨rfl, WE_call hU hW hP B.2.2.2.2.2.1 B.2.2.2.2.2.2.1 hS⟩⟩ rfl (by rw [List.length_map]; exact hn) hl1.1 rfl (lv_room hcat) hd ⟨by rw [Nat.add_zero]; exact hR.2.2.1, by rw [Nat.add_zero]; exact hR.2.2.2⟩) hS (fun _ _ h => h) (fun _ h => h) (fun v' u t H1 locs1 ht hvm hpost hB hz hk hS1 => ?_)
  cases hpost
  exact kk v I1 p e s m args below meth c B r hF H1 locs1 lsm (by rw [← ht]; exact hB.1) hS1 hl1
end JT
