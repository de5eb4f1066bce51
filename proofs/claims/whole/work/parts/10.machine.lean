/-! THE LOGICAL MACHINE: objects have numbers (ids); what they hold is a memory of ints; references in fields are fixed, but those of 'kept'. -/
/-- what each int field or element holds, by id and place -/
abbrev Mem : Type := Nat → Nat → Int32
/-- the launch, the classes' ids and slots, the array classes' ids, the addresses of ids, the start of all that is new, how many ids there are -/
abbrev Gt : Type := Launch × (Nat → ClassId) × (Nat → Nat → Nat) × (Nat → ClassId) × (Nat → Nat) × Nat × Nat
def gl (G : Gt) : Launch := G.1
def gD (G : Gt) : va_G := (G.2.1, G.2.2.1)
def gy (G : Gt) : Nat → ClassId := G.2.2.2.1
def gad (G : Gt) : Nat → Nat := G.2.2.2.2.1
def gsz (G : Gt) : Nat := G.2.2.2.2.2.1
def gn (G : Gt) : Nat := G.2.2.2.2.2.2
/-- what is at each id -/
def stags : List Nat := [8, 6, 10, 7, 11, 12, 13, 14, 15, 7, 11, 12, 13, 14, 15, 1, 16, 7, 11, 12, 13, 14, 15, 7, 11, 12, 13, 14, 15, 7, 11, 12, 13, 14, 15, 7, 11, 12, 13, 14, 15, 7, 11, 12, 13, 14, 15, 7, 11, 12, 13, 14, 15, 17, 5, 18, 19, 3, 5, 18, 19, 3, 5, 18, 19, 3, 5, 18, 19, 3, 2, 5, 18, 19, 3, 20, 4, 21, 22, 22, 22, 22, 22, 23, 0, 24, 25, 26, 27, 9, 30, 31, 32, 33, 34, 35, 36, 37, 38, 39, 40, 41, 42, 43]
def stag (i : Nat) : Nat := stags.getD i 99
/-- how long the arrays are, by tag -/
def slens : List Nat := [0, 0, 0, 0, 0, 0, 0, 0, 0, 0, 200, 3, 4, 4, 4, 100, 6, 4, 16, 16, 2048, 5, 108, 4, 100, 100, 433, 433, 0, 0, 200, 132, 792, 132, 4, 16, 16, 32, 32, 32, 33, 2200, 4, 440]
def slen (t : Nat) : Nat := slens.getD t 0
/-- the fields of an object of tag t at id i -/
def flds (ad : Nat → Nat) (t i : Nat) (w : Nat → Int32) : List Value := match t with
  | 0 => [.int (w 0), .int (w 1), .ref (ad (i + 1)), .ref (ad (i + 2)), .ref (ad (i + 3)), .ref (ad (i + 4))]
  | 1 => [.ref (ad (i + 1)), .int (w 1)]
  | 2 => [.ref (ad (i + 1)), .ref (ad (i + 5))]
  | 3 => [.int (w 0), .int (w 1), .int (w 2), .int (w 3), .int (w 4), .int (w 5), .int (w 6), .int (w 7)]
  | 4 => [.ref (ad (i + 1)), .ref (ad (i + 7)), .int (w 2)]
  | 5 => [.int (w 0), .int (w 1), .int (w 2), .ref (ad (i + 1)), .ref (ad (i + 2)), .ref (ad (i + 3))]
  | 6 => [.ref (ad (i + 1)), .int (w 1)]
  | 7 => [.int (w 0), .ref (ad (i + 1)), .ref (ad (i + 2)), .ref (ad (i + 3)), .ref (ad (i + 4)), .ref (ad (i + 5))]
  | 8 => [.ref (ad (i + 1)), .ref (ad (i + 3)), .ref (ad (i + 9)), .ref (ad (i + 15)), .ref (ad (i + 53)), .ref (ad (i + 70)), .ref (ad (i + 76)), .ref (ad (i + 84))]
  | _ => [.int (w 0), .ref (ad (i + 1)), .ref (ad (i + 2)), .ref (ad (i + 3)), .int (w 4), .ref (ad (i + 4)), .int (w 6), .ref (ad (i + 5)), .int (w 8), .ref (ad (i + 6)), .ref (ad (i + 7)), .int (w 11), .int (w 12), .ref (ad (i + 8)), .ref (ad (i + 9)), .ref (ad (i + 10)), .int (w 16), .ref (ad (i + 11)), .ref (ad (i + 12)), .ref (ad (i + 13)), .int (w 20), .int (w 21), .int (w 22), .ref (ad (i + 14))]
/-- the cell of a tag t at id i, when its row is w -/
def cellT (ad : Nat → Nat) (cy : Nat → ClassId) (t i : Nat) (w : Nat → Int32) : va_E :=
  if t < 10 then .inr (t, flds ad t i w)
  else if t = 10 then .inl (cy 0, 200, .inl w)
  else if t = 43 then .inl (cy 2, 440, .inl w)
  else if t = 16 then .inl (cy 3, 6, .inr (.inr (.inr (.inr (fun k => some (ad (w k).toNatClampNeg))))))
  else if t = 17 then .inl (cy 4, 4, .inr (.inr (.inr (.inr (fun k => some (ad (54 + 4 * k)))))))
  else if t = 21 then .inl (cy 5, 5, .inr (.inr (.inr (.inr (fun k => some (ad (78 + k)))))))
  else .inl (cy 1, slen t, .inl w)
def cellOf (ad : Nat → Nat) (cy : Nat → ClassId) (i : Nat) (w : Nat → Int32) : va_E := cellT ad cy (stag i) i w
def wl (G : Gt) (I : Mem) : va_W := (List.range (gn G)).map fun i => (gad G i, cellOf (gad G) (gy G) i (I i))
/-- the row of id a is w -/
def upR (I : Mem) (a : Nat) (w : Nat → Int32) : Mem := fun i => if i = a then w else I i
/-- place k of id a is x -/
def stm (I : Mem) (a k : Nat) (x : Int32) : Mem := upR I a (upd (I a) k x)
theorem wl_get {G : Gt} {I : Mem} {i : Nat} (h : i < gn G) : (wl G I)[i]? = some (gad G i, cellOf (gad G) (gy G) i (I i)) := by
  unfold wl
  rw [List.getElem?_map, List.getElem?_range h]
  rfl
theorem wl_some {G : Gt} {I : Mem} {i : Nat} {q : Nat × va_E} (h : (wl G I)[i]? = some q) : i < gn G ∧ q = (gad G i, cellOf (gad G) (gy G) i (I i)) := by
  by_cases hi : i < gn G
  · rw [wl_get hi] at h
    exact ⟨hi, (Option.some.inj h).symm⟩
  · have hn : (wl G I)[i]? = none := List.getElem?_eq_none (by unfold wl; rw [List.length_map, List.length_range]; omega)
    rw [hn] at h
    cases h
theorem wl_set {G : Gt} {I : Mem} {a : Nat} (w : Nat → Int32) (h : a < gn G) : (wl G I).set a (gad G a, cellOf (gad G) (gy G) a w) = wl G (upR I a w) := by
  apply List.ext_getElem?
  intro i
  rw [List.getElem?_set]
  by_cases e : a = i
  · subst e
    rw [if_pos rfl, if_pos (by unfold wl; rw [List.length_map, List.length_range]; exact h), wl_get h]
    simp [upR]
  · rw [if_neg e]
    by_cases hi : i < gn G
    · rw [wl_get hi, wl_get hi]
      simp [upR, Ne.symm e]
    · rw [List.getElem?_eq_none (by unfold wl; rw [List.length_map, List.length_range]; omega), List.getElem?_eq_none (by unfold wl; rw [List.length_map, List.length_range]; omega)]
/-- the addresses are apart, and new -/
def Gok (G : Gt) : Prop := (∀ i j : Nat, i < gn G → j < gn G → gad G i = gad G j → i = j) ∧ ∀ i : Nat, i < gn G → gsz G ≤ gad G i
def gA (G : Gt) : Nat → Prop := fun q => gsz G ≤ q
theorem Gok.D {G : Gt} (h : Gok G) (I : Mem) : va_D (gA G) (wl G I) := by
  refine ⟨fun i j p q hi hj hpq => ?_, fun k q hk => ?_⟩
  · obtain ⟨h1, rfl⟩ := wl_some hi
    obtain ⟨h2, rfl⟩ := wl_some hj
    exact h.1 i j h1 h2 hpq
  · obtain ⟨h1, rfl⟩ := wl_some hk
    exact h.2 k h1
def gtys (G : Gt) : List (ClassId × FieldType) := [(gy G 0, .char), (gy G 1, .int), (gy G 2, .boolean), (gy G 3, .object RX7), (gy G 4, .object RX5), (gy G 5, .array .int)]
/-- the static arrays NUMBER_LEAST, NUMBER_MOST, NUMBER_FIRST -/
def exv (j i : Nat) : Int32 := match j with
  | 0 => if i = 0 then 1 else 0
  | 1 => if i = 0 then 400 else if i = 1 then 20 else 1
  | _ => if i = 0 then 16 else if i = 1 then 2 else 0
/-- the texts "ncm", "blrt", "kl;krbl;ktr;n30;p1,14;" as bytes -/
def sby : List (List Int32) := [[110, 99, 109], [98, 108, 114, 116], [107, 108, 59, 107, 114, 98, 108, 59, 107, 116, 114, 59, 110, 51, 48, 59, 112, 49, 44, 49, 52, 59]]
def sln : List Nat := [3, 4, 22]
/-- what is there ahead of us and stays: static arrays, Strings -/
def Ex (G : Gt) (U : State) : Prop :=
  (va_Z RX8 "NUMBER_LEAST" "[I" (.ref (gad G 1000)) (gA G) U U.heap ∧ va_Z RX8 "NUMBER_MOST" "[I" (.ref (gad G 1001)) (gA G) U U.heap ∧ va_Z RX8 "NUMBER_FIRST" "[I" (.ref (gad G 1002)) (gA G) U U.heap) ∧
  (∀ j : Nat, j < 3 → va_T .int (gad G (1000 + j)) 3 (fun i => .int (exv j i)) (gA G) U U.heap) ∧
  (va_Z RJ0 "COMPACT_STRINGS" "Z" (.int 1) (gA G) U U.heap ∧ (va_Z RJ3 "SIOOBE_FORMATTER" "Ljava/util/function/BiFunction;" .null (gA G) U U.heap ∨ va_Z RJ3 "SIOOBE_FORMATTER" "Ljava/util/function/BiFunction;" (.ref (gad G 1030)) (gA G) U U.heap)) ∧
  (vk_S 3 sln sby (fun i => gad G (1010 + i)) (fun i => gad G (1020 + i)) (gA G) U U.heap) ∧
  (vk_R RX6 34 "ncm" (gad G 1010) U ∧ vk_R RX6 76 "blrt" (gad G 1011) U ∧ vk_R RX8 152 "blrt" (gad G 1011) U ∧ vk_R RX8 61 "kl;krbl;ktr;n30;p1,14;" (gad G 1012) U) ∧
  (va_Nw (.fieldLinkNest RX7 31 RX8 "NUMBER_FIRST" "[I" RX8) U ∧ va_Nw (.fieldLinkNest RX6 67 RX8 "NUMBER_LEAST" "[I" RX8) U ∧ va_Nw (.fieldLinkNest RX6 70 RX8 "NUMBER_MOST" "[I" RX8) U)
/-- a value of the logical machine, as the machine has it -/
def tv (G : Gt) (v : Value) : Value := match v with
  | .ref i => .ref (gad G i)
  | w => w
/-- the locals that are set, by their places -/
def lvl (G : Gt) : Nat → List (Option Value) → List (Nat × Value)
  | _, [] => []
  | k, none :: r => lvl G (k + 1) r
  | k, some v :: r => (k, tv G v) :: lvl G (k + 1) r
theorem lvl_mem {G : Gt} : ∀ {ls : List (Option Value)} {k i : Nat} {v : Value}, ls[i]? = some (some v) → (k + i, tv G v) ∈ lvl G k ls
  | [], k, i, v, h => by simp at h
  | none :: r, k, 0, v, h => by simp at h
  | none :: r, k, i + 1, v, h => by
    have h2 : (k + 1 + i, tv G v) ∈ lvl G (k + 1) r := lvl_mem (by simpa using h)
    rw [show k + (i + 1) = k + 1 + i by omega]
    exact h2
  | some w :: r, k, 0, v, h => by
    simp at h
    subst h
    exact List.mem_cons_self
  | some w :: r, k, i + 1, v, h => by
    have h2 : (k + 1 + i, tv G v) ∈ lvl G (k + 1) r := lvl_mem (by simpa using h)
    rw [show k + (i + 1) = k + 1 + i by omega]
    exact List.mem_cons_of_mem _ h2
theorem lvl_of {G : Gt} : ∀ {ls : List (Option Value)} {k : Nat} {q : Nat × Value}, q ∈ lvl G k ls → ∃ (i : Nat) (v : Value), ls[i]? = some (some v) ∧ q = (k + i, tv G v)
  | [], k, q, h => by cases h
  | none :: r, k, q, h => by
    obtain ⟨i, v, h1, h2⟩ := lvl_of (ls := r) h
    exact ⟨i + 1, v, by simpa using h1, by rw [h2]; congr 1; omega⟩
  | some w :: r, k, q, h => by
    rcases List.mem_cons.mp h with h | h
    · exact ⟨0, w, rfl, h⟩
    · obtain ⟨i, v, h1, h2⟩ := lvl_of (ls := r) h
      exact ⟨i + 1, v, by simpa using h1, by rw [h2]; congr 1; omega⟩
/-- no long, no double among them -/
def noLong : List (Option Value) → Bool
  | [] => true
  | none :: r => noLong r
  | some v :: r => v.category == 1 && noLong r
theorem noLong_at : ∀ {ls : List (Option Value)} {i : Nat} {v : Value}, noLong ls = true → ls[i]? = some (some v) → v.category = 1
  | [], i, v, h, e => by simp at e
  | none :: r, 0, v, h, e => by simp at e
  | none :: r, i + 1, v, h, e => noLong_at (ls := r) h (by simpa using e)
  | some w :: r, 0, v, h, e => by
    simp at e
    subst e
    simp [noLong] at h
    exact h.1
  | some w :: r, i + 1, v, h, e => by
    simp [noLong] at h
    exact noLong_at (ls := r) h.2 (by simpa using e)
theorem tv_cat {G : Gt} (v : Value) : (tv G v).category = v.category := by cases v <;> rfl
theorem lvl_load {G : Gt} {lsm : Array Slot} {n i : Nat} {ls : List (Option Value)} {v : Value} (h : lv_has lsm n (lvl G 0 ls)) (e : ls[i]? = some (some v)) : lsm[i]? = some (.val (tv G v)) := by
  have := h.2.2 (0 + i, tv G v) (lvl_mem e)
  simpa using this
theorem lvl_store {G : Gt} {lsm : Array Slot} {n i : Nat} {ls : List (Option Value)} {v : Value} (hc : noLong ls = true) (h : lv_has lsm n ((i, tv G v) :: (lvl G 0 ls).filter (fun q => !(q.1 == i) && !(q.1 + 1 == i && q.2.category == 2)))) : lv_has lsm n (lvl G 0 (ls.set i (some v))) := by
  refine ⟨h.1, h.2.1, fun q hq => ?_⟩
  obtain ⟨j, w, h1, rfl⟩ := lvl_of hq
  refine h.2.2 _ ?_
  rw [List.getElem?_set] at h1
  by_cases e : i = j
  · subst e
    rw [if_pos rfl] at h1
    by_cases hl : i < ls.length
    · rw [if_pos hl] at h1
      cases h1
      simp
    · rw [if_neg hl] at h1
      cases h1
  · rw [if_neg e] at h1
    refine List.mem_cons_of_mem _ (List.mem_filter.mpr ⟨lvl_mem h1, ?_⟩)
    have := noLong_at hc h1
    simp [tv_cat, this]
    omega
/-- a list of locals that knows less -/
def lsle : List (Option Value) → List (Option Value) → Prop
  | [], _ => True
  | none :: a, _ :: b => lsle a b
  | none :: a, [] => lsle a []
  | some v :: a, x :: b => x = some v ∧ lsle a b
  | some _ :: _, [] => False
theorem lsle_at : ∀ {a b : List (Option Value)} {i : Nat} {v : Value}, lsle a b → a[i]? = some (some v) → b[i]? = some (some v)
  | [], b, i, v, h, e => by simp at e
  | none :: a, x :: b, 0, v, h, e => by simp at e
  | none :: a, x :: b, i + 1, v, h, e => by
    have := lsle_at (a := a) (b := b) h (by simpa using e)
    simpa using this
  | none :: a, [], 0, v, h, e => by simp at e
  | none :: a, [], i + 1, v, h, e => by
    have := lsle_at (a := a) (b := []) h (by simpa using e)
    simp at this
  | some w :: a, x :: b, 0, v, h, e => by
    simp at e
    subst e
    simpa using h.1
  | some w :: a, x :: b, i + 1, v, h, e => by
    have := lsle_at (a := a) (b := b) h.2 (by simpa using e)
    simpa using this
  | some w :: a, [], i, v, h, e => h.elim
theorem lsle_has {G : Gt} {lsm : Array Slot} {n : Nat} {a b : List (Option Value)} (hl : lsle a b) (h : lv_has lsm n (lvl G 0 b)) : lv_has lsm n (lvl G 0 a) := by
  refine ⟨h.1, h.2.1, fun q hq => ?_⟩
  obtain ⟨j, w, h1, rfl⟩ := lvl_of hq
  exact h.2.2 _ (lvl_mem (lsle_at hl h1))
/-- a method: its bytes, its locals, its class, its answer's type, its room, the cells and slots that are made, what is to hold at its end -/
abbrev Mt (α : Type) : Type := ByteArray × Nat × String × Option FieldType × Room × Nat × Nat × (List Frame → Array Value → State → α → State → Prop)
def mco {α : Type} (μ : Mt α) : ByteArray := μ.1
def mnl {α : Type} (μ : Mt α) : Nat := μ.2.1
def mow {α : Type} (μ : Mt α) : String := μ.2.2.1
def mrt {α : Type} (μ : Mt α) : Option FieldType := μ.2.2.2.1
def mrm {α : Type} (μ : Mt α) : Room := μ.2.2.2.2.1
def mce {α : Type} (μ : Mt α) : Nat := μ.2.2.2.2.2.1
def msl {α : Type} (μ : Mt α) : Nat := μ.2.2.2.2.2.2.1
def mZ {α : Type} (μ : Mt α) : List Frame → Array Value → State → α → State → Prop := μ.2.2.2.2.2.2.2
/-- what holds of the machine and of the start of the method while it runs -/
def Bx {α : Type} (G : Gt) (μ : Mt α) (p : Program) (s : State) (m : MethodId) (args : Array Value) (meth : Method) (c : Code) : Prop :=
  p.tables.exec = Jvm.exec ∧ c.code = mco μ ∧ c.maxLocals = mnl μ ∧ s.vm.findClass (mow μ) = some m.cls ∧ (∀ w ∈ wsG, w.before args s = true) ∧ va_K (gD G) vwCl (gtys G) s ∧ Ex G s ∧ Gok G ∧ meth.sig.returnType = mrt μ ∧ meth.locks = false
/-- THE JUDGEMENT: from here the machine comes to the end that F tells, if F tells one -/
def J {α : Type} (G : Gt) (μ : Mt α) (pc : Nat) (ls : List (Option Value)) (st : List Value) (I : Mem) (F : Option α) : Prop :=
  ∀ (p : Program) (e : Env) (s : State) (m : MethodId) (args : Array Value) (below : List Frame) (meth : Method) (c : Code), Bx G μ p s m args meth c → ∀ r : α, F = some r → ∀ (H : Heap) (locs : List Loc) (lsm : Array Slot), va_P (gD G) vwCl (wl G I) H → va_S (gA G) s.heap H locs → lv_has lsm (mnl μ) (lvl G 0 ls) →
    W p (gl G) e (mrm μ) s m args below meth c H locs (mce μ) (msl μ) (mZ μ below args s r) (F0 m pc lsm (st.map (tv G)))
section JR
variable {α : Type} {G : Gt} {μ : Mt α} {pc : Nat} {ls : List (Option Value)} {st : List Value} {I : Mem} {F : Option α}
theorem J_none : J G μ pc ls st I none := fun _ _ _ _ _ _ _ _ _ _ h => by cases h
theorem J_eq {F' : Option α} (h : F = F') (k : J G μ pc ls st I F') : J G μ pc ls st I F := h ▸ k
theorem J_weak {ls' : List (Option Value)} (h : lsle ls' ls) (k : J G μ pc ls' st I F) : J G μ pc ls st I F :=
  fun p e s m args below meth c B r hF H locs lsm hP hS hl => k p e s m args below meth c B r hF H locs lsm hP hS (lsle_has h hl)
theorem J_chk {q : Prop} {dq : Decidable q} (k : q → J G μ pc ls st I F) : J G μ pc ls st I (@ite (Option α) q dq F none) := by
  by_cases h : q
  · rw [if_pos h]; exact k h
  · rw [if_neg h]; exact J_none
theorem J_ite {q : Prop} {dq : Decidable q} {F' : Option α} (k : q → J G μ pc ls st I F) (k2 : ¬ q → J G μ pc ls st I F') : J G μ pc ls st I (@ite (Option α) q dq F F') := by
  by_cases h : q
  · rw [if_pos h]; exact k h
  · rw [if_neg h]; exact k2 h
theorem J_iconst {n : Int} {v : Int32} (hd : decode (mco μ) pc = .ok (.iconst n, 1)) (hv : Int32.ofInt n = v) (k : J G μ (pc + 1) ls (.int v :: st) I F) : J G μ pc ls st I F :=
  fun p e s m args below meth c B r hF H locs lsm hP hS hl => lv_iconst B.1 B.2.1 hd hv (k p e s m args below meth c B r hF H locs lsm hP hS hl)
theorem J_bipush {n : Int} {v : Int32} (hd : decode (mco μ) pc = .ok (.bipush n, 2)) (hv : (Int8.ofInt n).toInt32 = v) (k : J G μ (pc + 2) ls (.int v :: st) I F) : J G μ pc ls st I F :=
  fun p e s m args below meth c B r hF H locs lsm hP hS hl => lv_bipush B.1 B.2.1 hd hv (k p e s m args below meth c B r hF H locs lsm hP hS hl)
theorem J_sipush {n : Int} {v : Int32} (hd : decode (mco μ) pc = .ok (.sipush n, 3)) (hv : (Int16.ofInt n).toInt32 = v) (k : J G μ (pc + 3) ls (.int v :: st) I F) : J G μ pc ls st I F :=
  fun p e s m args below meth c B r hF H locs lsm hP hS hl => lv_sipush B.1 B.2.1 hd hv (k p e s m args below meth c B r hF H locs lsm hP hS hl)
theorem J_lconst {n : Fin 2} {v : Int64} (hd : decode (mco μ) pc = .ok (.lconst n, 1)) (hv : Int64.ofNat (n : Nat) = v) (k : J G μ (pc + 1) ls (.long v :: st) I F) : J G μ pc ls st I F :=
  fun p e s m args below meth c B r hF H locs lsm hP hS hl => lv_lconst B.1 B.2.1 hd hv (k p e s m args below meth c B r hF H locs lsm hP hS hl)
theorem J_iload_n {j : Fin 4} {x : Int32} (hd : decode (mco μ) pc = .ok (.iload_n j, 1)) (hl0 : ls[(j : Nat)]? = some (some (.int x))) (k : J G μ (pc + 1) ls (.int x :: st) I F) : J G μ pc ls st I F :=
  fun p e s m args below meth c B r hF H locs lsm hP hS hl => lv_iload_n B.1 B.2.1 hd rfl (lvl_load hl hl0) (k p e s m args below meth c B r hF H locs lsm hP hS hl)
theorem J_iload {j : Nat} {x : Int32} (hd : decode (mco μ) pc = .ok (.iload j, 2)) (hl0 : ls[j]? = some (some (.int x))) (k : J G μ (pc + 2) ls (.int x :: st) I F) : J G μ pc ls st I F :=
  fun p e s m args below meth c B r hF H locs lsm hP hS hl => lv_iload B.1 B.2.1 hd (lvl_load hl hl0) (k p e s m args below meth c B r hF H locs lsm hP hS hl)
theorem J_lload_n {j : Fin 4} {x : Int64} (hd : decode (mco μ) pc = .ok (.lload_n j, 1)) (hl0 : ls[(j : Nat)]? = some (some (.long x))) (k : J G μ (pc + 1) ls (.long x :: st) I F) : J G μ pc ls st I F :=
  fun p e s m args below meth c B r hF H locs lsm hP hS hl => lv_lload_n B.1 B.2.1 hd rfl (lvl_load hl hl0) (k p e s m args below meth c B r hF H locs lsm hP hS hl)
theorem J_lload {j : Nat} {x : Int64} (hd : decode (mco μ) pc = .ok (.lload j, 2)) (hl0 : ls[j]? = some (some (.long x))) (k : J G μ (pc + 2) ls (.long x :: st) I F) : J G μ pc ls st I F :=
  fun p e s m args below meth c B r hF H locs lsm hP hS hl => lv_lload B.1 B.2.1 hd (lvl_load hl hl0) (k p e s m args below meth c B r hF H locs lsm hP hS hl)
theorem J_aload_n {j : Fin 4} {x : Nat} (hd : decode (mco μ) pc = .ok (.aload_n j, 1)) (hl0 : ls[(j : Nat)]? = some (some (.ref x))) (k : J G μ (pc + 1) ls (.ref x :: st) I F) : J G μ pc ls st I F :=
  fun p e s m args below meth c B r hF H locs lsm hP hS hl => lv_aload_n B.1 B.2.1 hd rfl (lvl_load hl hl0) (k p e s m args below meth c B r hF H locs lsm hP hS hl)
theorem J_aload {j : Nat} {x : Nat} (hd : decode (mco μ) pc = .ok (.aload j, 2)) (hl0 : ls[j]? = some (some (.ref x))) (k : J G μ (pc + 2) ls (.ref x :: st) I F) : J G μ pc ls st I F :=
  fun p e s m args below meth c B r hF H locs lsm hP hS hl => lv_aload B.1 B.2.1 hd (lvl_load hl hl0) (k p e s m args below meth c B r hF H locs lsm hP hS hl)
theorem J_istore_n {j : Fin 4} {x : Int32} {ls' : List (Option Value)} (hd : decode (mco μ) pc = .ok (.istore_n j, 1)) (hj : (j : Nat) < mnl μ) (hc : noLong ls = true) (hs : ls.set (j : Nat) (some (.int x)) = ls') (k : J G μ (pc + 1) ls' st I F) : J G μ pc ls (.int x :: st) I F :=
  fun p e s m args below meth c B r hF H locs lsm hP hS hl => lv_istore_n B.1 B.2.1 hd rfl hl hj rfl fun lsm' hl' => by
    subst hs
    exact k p e s m args below meth c B r hF H locs lsm' hP hS (lvl_store (v := .int x) hc hl')
theorem J_istore {j : Nat} {x : Int32} {ls' : List (Option Value)} (hd : decode (mco μ) pc = .ok (.istore j, 2)) (hj : j < mnl μ) (hc : noLong ls = true) (hs : ls.set j (some (.int x)) = ls') (k : J G μ (pc + 2) ls' st I F) : J G μ pc ls (.int x :: st) I F :=
  fun p e s m args below meth c B r hF H locs lsm hP hS hl => lv_istore B.1 B.2.1 hd hl hj rfl fun lsm' hl' => by
    subst hs
    exact k p e s m args below meth c B r hF H locs lsm' hP hS (lvl_store (v := .int x) hc hl')
theorem J_astore_n {j : Fin 4} {x : Nat} {ls' : List (Option Value)} (hd : decode (mco μ) pc = .ok (.astore_n j, 1)) (hj : (j : Nat) < mnl μ) (hc : noLong ls = true) (hs : ls.set (j : Nat) (some (.ref x)) = ls') (k : J G μ (pc + 1) ls' st I F) : J G μ pc ls (.ref x :: st) I F :=
  fun p e s m args below meth c B r hF H locs lsm hP hS hl => lv_astore_n B.1 B.2.1 hd rfl hl hj rfl fun lsm' hl' => by
    subst hs
    exact k p e s m args below meth c B r hF H locs lsm' hP hS (lvl_store (v := .ref x) hc hl')
theorem J_astore {j : Nat} {x : Nat} {ls' : List (Option Value)} (hd : decode (mco μ) pc = .ok (.astore j, 2)) (hj : j < mnl μ) (hc : noLong ls = true) (hs : ls.set j (some (.ref x)) = ls') (k : J G μ (pc + 2) ls' st I F) : J G μ pc ls (.ref x :: st) I F :=
  fun p e s m args below meth c B r hF H locs lsm hP hS hl => lv_astore B.1 B.2.1 hd hl hj rfl fun lsm' hl' => by
    subst hs
    exact k p e s m args below meth c B r hF H locs lsm' hP hS (lvl_store (v := .ref x) hc hl')
theorem lvl_place {G : Gt} : ∀ {ls : List (Option Value)} {k i : Nat} {v : Value}, ls[i]? = some (some v) → ∃ j : Nat, (lvl G k ls)[j]? = some (k + i, tv G v) := fun h => List.getElem?_of_mem (lvl_mem h)
theorem J_iinc {j : Nat} {n : Int} {x d : Int32} {ls' : List (Option Value)} (hd : decode (mco μ) pc = .ok (.iinc j n, 3)) (hn : Int32.ofInt n = d) (hl0 : ls[j]? = some (some (.int x))) (hj : j < mnl μ) (hc : noLong ls = true) (hs : ls.set j (some (.int (x + d))) = ls') (k : J G μ (pc + 3) ls' st I F) : J G μ pc ls st I F :=
  fun p e s m args below meth c B r hF H locs lsm hP hS hl => by
    subst hn
    obtain ⟨i0, hi0⟩ := lvl_place (G := G) (k := 0) hl0
    rw [Nat.zero_add] at hi0
    refine lv_iinc B.1 B.2.1 hd hl hi0 rfl hj rfl fun lsm' hl' => ?_
    subst hs
    exact k p e s m args below meth c B r hF H locs lsm' hP hS (lvl_store (v := .int (x + Int32.ofInt n)) hc hl')
theorem J_iadd {x y : Int32} (hd : decode (mco μ) pc = .ok (.iadd, 1)) (k : J G μ (pc + 1) ls (.int (x + y) :: st) I F) : J G μ pc ls (.int y :: .int x :: st) I F :=
  fun p e s m args below meth c B r hF H locs lsm hP hS hl => lv_iadd B.1 B.2.1 hd (k p e s m args below meth c B r hF H locs lsm hP hS hl)
theorem J_isub {x y : Int32} (hd : decode (mco μ) pc = .ok (.isub, 1)) (k : J G μ (pc + 1) ls (.int (x - y) :: st) I F) : J G μ pc ls (.int y :: .int x :: st) I F :=
  fun p e s m args below meth c B r hF H locs lsm hP hS hl => lv_isub B.1 B.2.1 hd (k p e s m args below meth c B r hF H locs lsm hP hS hl)
theorem J_imul {x y : Int32} (hd : decode (mco μ) pc = .ok (.imul, 1)) (k : J G μ (pc + 1) ls (.int (x * y) :: st) I F) : J G μ pc ls (.int y :: .int x :: st) I F :=
  fun p e s m args below meth c B r hF H locs lsm hP hS hl => lv_imul B.1 B.2.1 hd (k p e s m args below meth c B r hF H locs lsm hP hS hl)
theorem J_iand {x y : Int32} (hd : decode (mco μ) pc = .ok (.iand, 1)) (k : J G μ (pc + 1) ls (.int (x &&& y) :: st) I F) : J G μ pc ls (.int y :: .int x :: st) I F :=
  fun p e s m args below meth c B r hF H locs lsm hP hS hl => lv_iand B.1 B.2.1 hd (k p e s m args below meth c B r hF H locs lsm hP hS hl)
theorem J_ixor {x y : Int32} (hd : decode (mco μ) pc = .ok (.ixor, 1)) (k : J G μ (pc + 1) ls (.int (x ^^^ y) :: st) I F) : J G μ pc ls (.int y :: .int x :: st) I F :=
  fun p e s m args below meth c B r hF H locs lsm hP hS hl => lv_ixor B.1 B.2.1 hd (k p e s m args below meth c B r hF H locs lsm hP hS hl)
theorem J_ishl {x y : Int32} (hd : decode (mco μ) pc = .ok (.ishl, 1)) (k : J G μ (pc + 1) ls (.int (x <<< (y &&& 31)) :: st) I F) : J G μ pc ls (.int y :: .int x :: st) I F :=
  fun p e s m args below meth c B r hF H locs lsm hP hS hl => lv_ishl B.1 B.2.1 hd (k p e s m args below meth c B r hF H locs lsm hP hS hl)
theorem J_ishr {x y : Int32} (hd : decode (mco μ) pc = .ok (.ishr, 1)) (k : J G μ (pc + 1) ls (.int (x >>> (y &&& 31)) :: st) I F) : J G μ pc ls (.int y :: .int x :: st) I F :=
  fun p e s m args below meth c B r hF H locs lsm hP hS hl => lv_ishr B.1 B.2.1 hd (k p e s m args below meth c B r hF H locs lsm hP hS hl)
theorem J_idiv {x y : Int32} (hd : decode (mco μ) pc = .ok (.idiv, 1)) (hne : ¬ y = 0) (k : J G μ (pc + 1) ls (.int (x / y) :: st) I F) : J G μ pc ls (.int y :: .int x :: st) I F :=
  fun p e s m args below meth c B r hF H locs lsm hP hS hl => lv_idiv B.1 B.2.1 hd hne (k p e s m args below meth c B r hF H locs lsm hP hS hl)
theorem J_irem {x y : Int32} (hd : decode (mco μ) pc = .ok (.irem, 1)) (hne : ¬ y = 0) (k : J G μ (pc + 1) ls (.int (x - x / y * y) :: st) I F) : J G μ pc ls (.int y :: .int x :: st) I F :=
  fun p e s m args below meth c B r hF H locs lsm hP hS hl => lv_irem B.1 B.2.1 hd hne (k p e s m args below meth c B r hF H locs lsm hP hS hl)
theorem J_i2l {x : Int32} (hd : decode (mco μ) pc = .ok (.i2l, 1)) (k : J G μ (pc + 1) ls (.long x.toInt64 :: st) I F) : J G μ pc ls (.int x :: st) I F :=
  fun p e s m args below meth c B r hF H locs lsm hP hS hl => lv_i2l B.1 B.2.1 hd rfl (k p e s m args below meth c B r hF H locs lsm hP hS hl)
theorem J_i2c {x : Int32} (hd : decode (mco μ) pc = .ok (.i2c, 1)) (k : J G μ (pc + 1) ls (.int (x.toUInt32 % 65536).toInt32 :: st) I F) : J G μ pc ls (.int x :: st) I F :=
  fun p e s m args below meth c B r hF H locs lsm hP hS hl => lv_i2c B.1 B.2.1 hd rfl (k p e s m args below meth c B r hF H locs lsm hP hS hl)
theorem J_i2b {x : Int32} (hd : decode (mco μ) pc = .ok (.i2b, 1)) (k : J G μ (pc + 1) ls (.int x.toInt8.toInt32 :: st) I F) : J G μ pc ls (.int x :: st) I F :=
  fun p e s m args below meth c B r hF H locs lsm hP hS hl => lv_i2b B.1 B.2.1 hd rfl (k p e s m args below meth c B r hF H locs lsm hP hS hl)
theorem J_lcmp {x y : Int64} (hd : decode (mco μ) pc = .ok (.lcmp, 1)) (k : J G μ (pc + 1) ls (.int (lg_cmp x y) :: st) I F) : J G μ pc ls (.long y :: .long x :: st) I F :=
  fun p e s m args below meth c B r hF H locs lsm hP hS hl => W.lcmp B.1 B.2.1 hd (k p e s m args below meth c B r hF H locs lsm hP hS hl)
theorem J_dupI {x : Int32} (hd : decode (mco μ) pc = .ok (.dup, 1)) (k : J G μ (pc + 1) ls (.int x :: .int x :: st) I F) : J G μ pc ls (.int x :: st) I F :=
  fun p e s m args below meth c B r hF H locs lsm hP hS hl => lv_dup B.1 B.2.1 hd rfl (k p e s m args below meth c B r hF H locs lsm hP hS hl)
theorem J_dupR {x : Nat} (hd : decode (mco μ) pc = .ok (.dup, 1)) (k : J G μ (pc + 1) ls (.ref x :: .ref x :: st) I F) : J G μ pc ls (.ref x :: st) I F :=
  fun p e s m args below meth c B r hF H locs lsm hP hS hl => lv_dup B.1 B.2.1 hd rfl (k p e s m args below meth c B r hF H locs lsm hP hS hl)
theorem J_dup2 {x : Nat} {y : Int32} (hd : decode (mco μ) pc = .ok (.dup2, 1)) (k : J G μ (pc + 1) ls (.int y :: .ref x :: .int y :: .ref x :: st) I F) : J G μ pc ls (.int y :: .ref x :: st) I F :=
  fun p e s m args below meth c B r hF H locs lsm hP hS hl => lv_dup2_11 B.1 B.2.1 hd rfl rfl (k p e s m args below meth c B r hF H locs lsm hP hS hl)
theorem J_popI {x : Int32} (hd : decode (mco μ) pc = .ok (.pop, 1)) (k : J G μ (pc + 1) ls st I F) : J G μ pc ls (.int x :: st) I F :=
  fun p e s m args below meth c B r hF H locs lsm hP hS hl => lv_pop B.1 B.2.1 hd rfl (k p e s m args below meth c B r hF H locs lsm hP hS hl)
theorem J_goto {off : Int} {tgt : Nat} (hd : decode (mco μ) pc = .ok (.goto off, 3)) (ht : (pc : Int) + off = (tgt : Int)) (k : J G μ tgt ls st I F) : J G μ pc ls st I F :=
  fun p e s m args below meth c B r hF H locs lsm hP hS hl => lv_goto B.1 B.2.1 hd ht (k p e s m args below meth c B r hF H locs lsm hP hS hl)
theorem J_ldc {i : Nat} {v : Int32} (hw : Cond.constant (mow μ) i v ∈ wsG) (hd : decode (mco μ) pc = .ok (.ldc i, 2)) (k : J G μ (pc + 2) ls (.int v :: st) I F) : J G μ pc ls st I F :=
  fun p e s m args below meth c B r hF H locs lsm hP hS hl => lv_ldc B.1 B.2.1 B.2.2.2.1 (B.2.2.2.2.1 _ hw) hd (k p e s m args below meth c B r hF H locs lsm hP hS hl)
theorem J_ldc2 {i : Nat} {v : Int64} (hw : Cond.constantLong (mow μ) i v ∈ wsG) (hd : decode (mco μ) pc = .ok (.ldc2_w i, 3)) (k : J G μ (pc + 3) ls (.long v :: st) I F) : J G μ pc ls st I F :=
  fun p e s m args below meth c B r hF H locs lsm hP hS hl => lv_ldc2 B.1 B.2.1 B.2.2.2.1 (B.2.2.2.2.1 _ hw) hd (k p e s m args below meth c B r hF H locs lsm hP hS hl)
end JR
