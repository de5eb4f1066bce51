/-! new int[5][108]: the outer array, its five rows, one after another -/
def mA (cA : ClassId) (h i : Nat) : Cell := arrV cA 5 (fun j => if j < i then .ref (h + 1 + j) else .null)
def mI (cI : ClassId) : Cell := arrV cI 108 (fun _ => .int 0)
theorem mA_0 (cA : ClassId) (h : Nat) : mA cA h 0 = arrV cA 5 (fun _ => .null) := by
  unfold mA
  congr 1
theorem mA_s (cA : ClassId) (h i : Nat) : (mA cA h i).setSlot i (.ref (h + 1 + i)) = mA cA h (i + 1) := by
  unfold mA
  rw [arrV_store]
  congr 1
  funext j
  unfold updV
  by_cases e : j = i
  · rw [if_pos e, if_pos (by omega), e]
  · rw [if_neg e]
    show (if j < i then Value.ref (h + 1 + j) else Value.null) = _
    by_cases q : j < i
    · rw [if_pos q, if_pos (by omega)]
    · rw [if_neg q, if_neg (by omega)]
def mU (T : State) (cA cI : ClassId) : Nat → State
  | 0 => T.pushCell (mA cA T.heap.size 0)
  | i + 1 => ((mU T cA cI i).pushCell (mI cI)).setCell T.heap.size (mA cA T.heap.size (i + 1))
theorem mU_top (T : State) (f : JFrame) (cA cI : ClassId) : ∀ i, mU (T.setTop f) cA cI i = (mU T cA cI i).setTop f
  | 0 => rfl
  | i + 1 => by
    show ((mU (T.setTop f) cA cI i).pushCell (mI cI)).setCell T.heap.size (mA cA T.heap.size (i + 1)) = _
    rw [mU_top T f cA cI i, State.pushCell_setTop, State.setCell_setTop]
    rfl
theorem mU_facts (T : State) (cA cI : ClassId) : ∀ i, (mU T cA cI i).heap.size = T.heap.size + 1 + i ∧ (mU T cA cI i).heap[T.heap.size]? = some (mA cA T.heap.size i) ∧ (∀ j, j < i → (mU T cA cI i).heap[T.heap.size + 1 + j]? = some (mI cI)) ∧ (∀ q, q < T.heap.size → (mU T cA cI i).heap[q]? = T.heap[q]?) ∧ (mU T cA cI i).vm = T.vm ∧ (mU T cA cI i).slotsUsed = T.slotsUsed + 5 + i * 108
  | 0 => by
    refine ⟨?_, State.heap_pushCell_size _ _, fun j hj => absurd hj (Nat.not_lt_zero j), fun q hq => State.heap_pushCell_of_lt _ _ hq, rfl, ?_⟩
    · simp [mU]
    · simp [mU, mA, arrV]
  | i + 1 => by
    obtain ⟨a1, a2, a3, a4, a5, a6⟩ := mU_facts T cA cI i
    have hlt : T.heap.size < (mU T cA cI i).heap.size := by omega
    have hb' : ((mU T cA cI i).pushCell (mI cI)).heap[T.heap.size]? = some (mA cA T.heap.size i) := by rw [State.heap_pushCell_of_lt (h := hlt)]; exact a2
    refine ⟨?_, State.heap_setCell_self hb', fun j hj => ?_, fun q hq => ?_, a5, ?_⟩
    · simp [mU, State.setCell, a1]; omega
    · show (((mU T cA cI i).pushCell (mI cI)).setCell T.heap.size _).heap[T.heap.size + 1 + j]? = _
      rw [State.heap_setCell_other (show T.heap.size ≠ T.heap.size + 1 + j by omega)]
      rcases Nat.lt_or_ge j i with q | q
      · rw [State.heap_pushCell_of_lt (h := (by omega : T.heap.size + 1 + j < (mU T cA cI i).heap.size))]
        exact a3 j q
      · have e : T.heap.size + 1 + j = (mU T cA cI i).heap.size := by omega
        rw [e]
        exact State.heap_pushCell_size _ _
    · show (((mU T cA cI i).pushCell (mI cI)).setCell T.heap.size _).heap[q]? = _
      rw [State.heap_setCell_other (Nat.ne_of_gt hq), State.heap_pushCell_of_lt (h := (by omega : q < (mU T cA cI i).heap.size))]
      exact a4 q hq
    · have e1 : (mI cI).slots.size = 108 := arrV_size _ _ _
      have e2 : (mU T cA cI (i + 1)).slotsUsed = (mU T cA cI i).slotsUsed + (mI cI).slots.size := by simp [mU]
      rw [e2, a6, e1]
      omega
section MUL
variable {p : Program} {l : Launch} {e : Env} {R : Room} {s : State} {m : MethodId} {args : Array Value} {below : List Frame} {meth : Method} {c : Code} {T : State} {locs : List Loc} {cells slots : Nat} {H : Heap} {Q : State → Prop}
theorem mU_stand (X : Stand p l e R s m args below meth c T locs cells slots) (cA cI : ClassId) : ∀ i, Stand p l e R s m args below meth c (mU T cA cI i) (locs ++ (List.range i).map fun j => ⟨T.heap.size, j⟩) (cells + 1 + i) (slots + 5 + i * 108)
  | 0 => by
    have h := X.pushed (mA cA T.heap.size 0)
    rw [show (mA cA T.heap.size 0).slots.size = 5 from arrV_size _ _ _] at h
    simpa [mU] using h
  | i + 1 => by
    have Xi := mU_stand X cA cI i
    obtain ⟨a1, a2, -⟩ := mU_facts T cA cI i
    have hcell : ((mU T cA cI i).pushCell (mI cI)).heap[T.heap.size]? = some (mA cA T.heap.size i) := by rw [State.heap_pushCell_of_lt (h := (by omega : T.heap.size < (mU T cA cI i).heap.size))]; exact a2
    have h := (Xi.pushed (mI cI)).stored hcell i (.ref (T.heap.size + 1 + i))
    rw [show (mI cI).slots.size = 108 from arrV_size _ _ _, mA_s] at h
    rw [show (locs ++ (List.range (i + 1)).map fun j => (⟨T.heap.size, j⟩ : Loc)) = (locs ++ (List.range i).map fun j => (⟨T.heap.size, j⟩ : Loc)) ++ [⟨T.heap.size, i⟩] by simp [List.range_succ], show slots + 5 + (i + 1) * 108 = slots + 5 + i * 108 + 108 by omega]
    exact h
end MUL
section MUW
variable {E : CtlPost} {e : Env} {d : Bool} {acts : List Action} {S : State}
theorem mk_row {cI ci : ClassId} {kI : Class} (hkI : S.vm.classes[cI]? = some kI) (hkindI : kI.kind = .array ci .int) (hl : ¬ 108 > e.platform.arrayLengthLimit) (hh : ¬ 108 * componentBytes .int > e.platform.maxHeapBytes) (h1 : S.heap.size < e.platform.maxCells) (h2 : S.slotsUsed + 108 ≤ e.platform.maxSlots) {Q : Addr → Pre} (hq : ∀ acts', Q S.heap.size d acts' (S.pushCell (mI cI))) : wp (multianewarray.make cI [(108 : Int32)]) Q E e d acts S := by
  rw [multianewarray.make]
  simp only [wp_bind', W.ite, show ¬ (108 : Int32) < 0 by decide, if_false, wp_pure', W.theClass, hkI, hkindI, Option.some.injEq, exists_eq_left']
  refine W.newArray_of hkI hkindI hl hh h1 h2 rfl (fun acts' => ?_)
  have := hq acts'
  unfold mI at this
  rw [← arrV_new] at this
  exact this
theorem mk_rows {cA cI ci : ClassId} {kA kI : Class} (hkA : S.vm.classes[cA]? = some kA) (hkindA : kA.kind = .array cI (.array .int)) (hkI : S.vm.classes[cI]? = some kI) (hkindI : kI.kind = .array ci .int) (hl : ¬ 108 > e.platform.arrayLengthLimit) (hh : ¬ 108 * componentBytes .int > e.platform.maxHeapBytes) (hl5 : ¬ 5 > e.platform.arrayLengthLimit) (hh5 : ¬ 5 * componentBytes (.array .int) > e.platform.maxHeapBytes) (h1 : S.heap.size + 6 ≤ e.platform.maxCells) (h2 : S.slotsUsed + 545 ≤ e.platform.maxSlots) {Q : Addr → Pre} (hq : ∀ d' acts', Q S.heap.size d' acts' (mU S cA cI 5)) : wp (multianewarray.make cA [(5 : Int32), (108 : Int32)]) Q E e d acts S := by
  have hfind : ([(108 : Int32)].find? (· < 0)) = none := by decide
  rw [multianewarray.make]
  simp only [wp_bind', W.ite, show ¬ (5 : Int32) < 0 by decide, if_false, wp_pure', W.theClass, hkA, hkindA, Option.some.injEq, exists_eq_left']
  refine W.newArray_of hkA hkindA hl5 hh5 (by omega) (by show S.slotsUsed + 5 ≤ _; omega) rfl (fun acts' => ?_)
  simp only [hfind]
  rw [ite_self, wp_bind', Std.Legacy.Range.forIn_eq_forIn_range']
  show wp (forIn (List.range' 0 5 1) PUnit.unit _) _ E e d acts' _
  refine wp_forIn_inv (fun rest s' => ∃ i, i ≤ 5 ∧ rest = List.range' i (5 - i) ∧ s' = mU S cA cI i) _ _ ⟨0, Nat.zero_le _, rfl, ?_⟩ ?_ ?_
  · show S.pushCell _ = S.pushCell _
    rw [mA_0, ← arrV_new]
    rfl
  · rintro x rest s' d' acts' Q' ⟨i, hi, hl0, rfl⟩ hnext
    have hlt : i < 5 := by
      rcases Nat.lt_or_ge i 5 with h | h
      · exact h
      · rw [show 5 - i = 0 by omega] at hl0; simp at hl0
    obtain ⟨rfl, hrest⟩ : x = i ∧ rest = List.range' (i + 1) (5 - (i + 1)) := by
      rw [show 5 - i = (5 - (i + 1)) + 1 by omega, List.range'_succ] at hl0
      exact ⟨(List.cons.inj hl0).1, (List.cons.inj hl0).2⟩
    obtain ⟨f1, f2, f3, f4, f5, f6⟩ := mU_facts S cA cI x
    simp only [wp_bind']
    refine mk_row (by rw [f5]; exact hkI) hkindI hl hh (by rw [f1]; omega) (by rw [f6]; omega) (fun acts'' => ?_)
    simp only [wp_bind', W.writeLoc, wp_pure']
    refine ⟨mA cA S.heap.size x, by rw [State.heap_pushCell_of_lt (h := (by omega : S.heap.size < (mU S cA cI x).heap.size))]; exact f2, (fun h => by cases h), by rw [show (mA cA S.heap.size x).slots.size = 5 from arrV_size _ _ _]; exact hlt, ?_, hnext _ _ _ ⟨x + 1, hlt, hrest, ?_⟩⟩
    · show State.fitsSlot _ cA .none x _ = true
      simp [State.fitsSlot, State.slotType?, f5, hkA, hkindA]
      rfl
    · rw [f1, mA_s]
      rfl
  · rintro s' d' acts'' ⟨i, hi, hl0, rfl⟩
    have hi5 : i = 5 := by
      rcases Nat.lt_or_ge i 5 with h | h
      · rw [show 5 - i = (5 - (i + 1)) + 1 by omega, List.range'_succ] at hl0; cases hl0
      · omega
    subst hi5
    simp only [wp_pure']
    exact hq _ _
end MUW
section MUR
variable {p : Program} {l : Launch} {e : Env} {R : Room} {s : State} {m : MethodId} {args : Array Value} {below : List Frame} {meth : Method} {c : Code} {locs : List Loc} {cells slots : Nat} {H : Heap} {Q : State → Prop}
theorem W_multi {cc : ByteArray} (hexec : p.tables.exec = Jvm.exec) (hb : c.code = cc) {own : String} {index : Nat} (hown : s.vm.findClass own = some m.cls) (hclink : (Cond.classLink own index "[[I").before args s = true) {cA cI ci : ClassId} {kA kI : Class} (hfA : s.vm.findClass "[[I" = some cA) (hkA : s.vm.classes[cA]? = some kA) (hkindA : kA.kind = .array cI (.array .int)) (hkI : s.vm.classes[cI]? = some kI) (hkindI : kI.kind = .array ci .int)
    {pc : Nat} {ls : Array Slot} {rest : List Value} (hdg : decode cc pc = .ok (.multianewarray index 2, 4)) (hcells : cells + 6 ≤ R.cells) (hslots : slots + 545 ≤ R.slots)
    (kk : ∀ H1 : Heap, H1.size = H.size + 6 → H1[H.size]? = some (mA cA H.size 5) → (∀ j, j < 5 → H1[H.size + 1 + j]? = some (mI cI)) → (∀ q, q < H.size → H1[q]? = H[q]?) → W p l e R s m args below meth c H1 (locs ++ (List.range 5).map fun j => ⟨H.size, j⟩) (cells + 6) (slots + 545) Q (F0 m (pc + 4) ls (.ref H.size :: rest))) : W p l e R s m args below meth c H locs cells slots Q (F0 m pc ls (.int 108 :: .int 5 :: rest)) := by
  intro T hT X
  subst hT
  subst hb
  have hpl : e.platform.magicAccessors = ({} : Platform).magicAccessors := by rw [X.admits.platform]
  obtain ⟨c0, hfc0, hcl⟩ := Cond.classLink_spec hown hclink e.platform hpl
  cases hfA.symm.trans hfc0
  obtain ⟨hg₁, hwarm₁, hready₁⟩ := State.classEntry (e := e) X.warmed hcl
  generalize T.vm.noted m.cls index (.cls cA) = vm₁ at hg₁ hwarm₁ hready₁
  have hal : s.vm.Alike vm₁ := hwarm₁.alike
  obtain ⟨kA₁, hkA₁, heA⟩ := hal.2.2 _ _ hkA
  obtain ⟨kI₁, hkI₁, heI⟩ := hal.2.2 _ _ hkI
  have hkindA₁ : kA₁.kind = .array cI (.array .int) := by rw [heA]; exact hkindA
  have hkindI₁ : kI₁.kind = .array ci .int := by rw [heI]; exact hkindI
  have X₁ := X.noted hwarm₁
  obtain ⟨hr1, hr2⟩ := X.roomAbove hcells hslots
  have XF := mU_stand X₁ cA cI 5
  obtain ⟨f1, f2, f3, f4, -, -⟩ := mU_facts (T.setVm vm₁) cA cI 5
  obtain ⟨t, a1, b1⟩ := kk (mU (T.setVm vm₁) cA cI 5).heap f1 f2 f3 f4 _ rfl XF
  refine ⟨t, ?_, b1⟩
  have hl : ¬ 108 > e.platform.arrayLengthLimit := by rw [Launch.admits_arrayLengthLimit X.admits]; omega
  have hl5 : ¬ 5 > e.platform.arrayLengthLimit := by rw [Launch.admits_arrayLengthLimit X.admits]; omega
  have hh : ¬ 108 * componentBytes .int > e.platform.maxHeapBytes := by rw [Launch.admits_maxHeapBytes X.admits]; show ¬ 108 * 4 > 536870912; omega
  have hh5 : ¬ 5 * componentBytes (.array .int) > e.platform.maxHeapBytes := by rw [Launch.admits_maxHeapBytes X.admits]; show ¬ 5 * 4 > 536870912; omega
  jvm_step X.here [hexec, hdg]
  simp only [multianewarray.sem, wp_bind', W.resolveClassAt_links (State.method?_setTop (F0 m pc ls (.int 108 :: .int 5 :: rest)) X.here.top) (show (resolveClass (F0 m pc ls (.int 108 :: .int 5 :: rest)).method.cls index).Gives e.toSetting (T.setTop (F0 m pc ls (.int 108 :: .int 5 :: rest))).vm (Except.ok cA) vm₁ from hg₁)]
  rw [W.popN, if_neg (by decide)]
  refine ⟨F0 m pc ls (.int 108 :: .int 5 :: rest), State.topJava?_setTop' (s := T.setVm vm₁) (F0 m pc ls (.int 108 :: .int 5 :: rest)) X.here.top, [.int 5, .int 108], rest, rfl, rfl, ?_⟩
  simp only [List.mapM_cons, List.mapM_nil, wp_bind', wp_pure']
  refine mk_rows (kA := kA₁) (kI := kI₁) hkA₁ hkindA₁ hkI₁ hkindI₁ hl hh hl5 hh5 (by show T.heap.size + 6 ≤ _; omega) (by show T.slotsUsed + 545 ≤ _; omega) (fun d' acts' => ?_)
  have eS : ((T.setTop (F0 m pc ls (.int 108 :: .int 5 :: rest))).setVm vm₁).setTop { (F0 m pc ls (.int 108 :: .int 5 :: rest)) with stack := rest } = (T.setVm vm₁).setTop { (F0 m pc ls (.int 108 :: .int 5 :: rest)) with stack := rest } := by
    show ((T.setVm vm₁).setTop _).setTop _ = _
    rw [State.setTop_setTop]
  rw [eS, mU_top]
  simp only [wp_bind', W.mark, W.pushRef, State.topJava?_setTop' _ XF.here.top, Option.some.injEq, exists_eq_left', State.setTop_setTop, State.heap_setTop]
  intro acts
  simp [jvm, XF.here.top]
  exact a1
end MUR
