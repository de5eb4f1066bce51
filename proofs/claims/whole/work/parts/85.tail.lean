/-! FoldedPages(): its end, its contract -/
abbrev Gm (l : Launch) (D : va_G) (y : Nat → ClassId) (ad : Nat → Nat) (sz n : Nat) : Gt := (l, D.1, D.2, y, ad, sz, n)
theorem Ex_ad {l : Launch} {D : va_G} {y : Nat → ClassId} {ad ad' : Nat → Nat} {sz n n' : Nat} {U : State} (h : ∀ i, 1000 ≤ i → ad' i = ad i) (hE : Ex (Gm l D y ad sz n) U) : Ex (Gm l D y ad' sz n') U := by
  obtain ⟨⟨a1, a2, a3⟩, b, ⟨c1, c2⟩, d, ⟨e1, e2, e3, e4⟩, n1⟩ := hE
  refine ⟨⟨?_, ?_, ?_⟩, fun j hj => ?_, ⟨c1, ?_⟩, ?_, ⟨?_, ?_, ?_, ?_⟩, n1⟩
  · show va_Z RX8 "NUMBER_LEAST" "[I" (.ref (ad' 1000)) (fun q => sz ≤ q) U U.heap
    rw [h 1000 (by decide)]
    exact a1
  · show va_Z RX8 "NUMBER_MOST" "[I" (.ref (ad' 1001)) (fun q => sz ≤ q) U U.heap
    rw [h 1001 (by decide)]
    exact a2
  · show va_Z RX8 "NUMBER_FIRST" "[I" (.ref (ad' 1002)) (fun q => sz ≤ q) U U.heap
    rw [h 1002 (by decide)]
    exact a3
  · show va_T .int (ad' (1000 + j)) 3 (fun i => .int (exv j i)) (fun q => sz ≤ q) U U.heap
    rw [h (1000 + j) (by omega)]
    exact b j hj
  · rcases c2 with c2 | c2
    · exact Or.inl c2
    · refine Or.inr ?_
      show va_Z RJ3 "SIOOBE_FORMATTER" "Ljava/util/function/BiFunction;" (.ref (ad' 1030)) (fun q => sz ≤ q) U U.heap
      rw [h 1030 (by decide)]
      exact c2
  · show vk_S 3 sln sby (fun i => ad' (1010 + i)) (fun i => ad' (1020 + i)) (fun q => sz ≤ q) U U.heap
    rw [show (fun i => ad' (1010 + i)) = (fun i => ad (1010 + i)) from funext fun i => h _ (by omega), show (fun i => ad' (1020 + i)) = (fun i => ad (1020 + i)) from funext fun i => h _ (by omega)]
    exact d
  · show vk_R RX6 34 "ncm" (ad' 1010) U
    rw [h 1010 (by decide)]
    exact e1
  · show vk_R RX6 76 "blrt" (ad' 1011) U
    rw [h 1011 (by decide)]
    exact e2
  · show vk_R RX8 152 "blrt" (ad' 1011) U
    rw [h 1011 (by decide)]
    exact e3
  · show vk_R RX8 61 "kl;krbl;ktr;n30;p1,14;" (ad' 1012) U
    rw [h 1012 (by decide)]
    exact e4
abbrev fpR : Room := { frames := 9, cells := 88, slots := 5086, locals := 207 }
/-- what the constructor leaves -/
abbrev fpQ (l : Launch) (D : va_G) (y : Nat → ClassId) (sz h0 : Nat) (ext : Nat → Nat) (r : Mem) : Array Value → State → Outcome → State → Prop :=
  va_Qv (fun u : Nat → Nat => u 0 = h0 ∧ ∀ i, 1000 ≤ i → u i = ext i) (fun u t => va_P D vwCl (wl (Gm l D y u sz 89) r) t.heap ∧ va_D (fun q => sz ≤ q) (wl (Gm l D y u sz 89) r)) (fun q => sz ≤ q)
def muF (l : Launch) (D : va_G) (y : Nat → ClassId) (sz h0 : Nat) (ext : Nat → Nat) : Mt Mem := (cX8_init, 2, RX8, none, fpR, 88, 5086, fun below args s r => MQ below (fpQ l D y sz h0 ext r) args s 88 5086 (fun q => sz ≤ q))
theorem wd_len : Cond.methodLink RX8 63 yJ0_length_8abf5 ∈ wsG := tb1 224 (by decide +kernel) (by decide +kernel)
theorem cw_RX8_63 {α : Type} {μ : Mt α} (h : mow μ = RX8) : CW μ 63 yJ0_length_8abf5 cJ0_length_8abf5 1 (some .int) 0 := ⟨by rw [h]; exact wd_len, wd_17, wd_608, ⟨by decide, by decide⟩, by decide +kernel⟩
section FP
variable {l : Launch} {D : va_G} {y : Nat → ClassId} {ad ext : Nat → Nat} {sz h0 : Nat} {pc : Nat} {ls : List (Option Value)} {I : Mem}
theorem J_fret (hG : Gok (Gm l D y ad sz 89)) (h1 : ad 0 = h0) (h2 : ∀ i, 1000 ≤ i → ad i = ext i) (hd : decode cX8_init pc = .ok (.return_, 1)) : J (Gm l D y ad sz 89) (muF l D y sz h0 ext) pc ls [] I (some I) := by
  intro p e s m args below meth c B r hF H locs lsm hP hS hl1
  cases hF
  exact W.vret B.1 B.2.1 B.2.2.2.2.2.2.2.2.1 (fun t ht hW => ⟨⟨ad, rfl, ⟨h1, h2⟩, by rw [ht]; exact hP, hG.D I⟩, hS.F ht⟩) hS.2.2 hd B.2.2.2.2.2.2.2.2.2
theorem J_ffin (hG : Gok (Gm l D y ad sz 89)) (h1 : ad 0 = h0) (h2 : ∀ i, 1000 ≤ i → ad i = ext i) (x1 : Int32) : J (Gm l D y ad sz 89) (muF l D y sz h0 ext) 145 [some (.ref 0), some (.int x1)] [] I (f_fin I) := by
  have hn : Gn (Gm l D y ad sz 89) := Or.inl rfl
  unfold f_fin
  refine J_aload_n (pc := 145) (x := 0) dX8_init_145 rfl ?_
  refine J_callVi (pc := 146) (t := 8) (as := []) (st := []) (c_X8_layText hG hn I) (ok_c hn 0 (by decide) rfl) (by decide) rfl (cw_RX8_77 rfl) wd_233 wd_232 rfl ⟨Nat.le_of_ble_eq_true rfl, Nat.le_of_ble_eq_true rfl, Nat.le_of_ble_eq_true rfl, Nat.le_of_ble_eq_true rfl⟩ (Nat.le_of_ble_eq_true rfl) rfl dX8_init_146 (fun r2 I1 => ?_)
  refine J_popI (pc := 149) dX8_init_149 ?_
  refine J_aload_n (pc := 150) (x := 0) dX8_init_150 rfl ?_
  refine J_get (pc := 151) (t := 8) (k := 0) (.ref 1) (ok_c hn 0 (by decide) rfl) (by decide) rfl ingX8 (by decide) wd_0 rfl dX8_init_151 ?_
  refine J_iconst (pc := 154) (v := (0 : Int32)) dX8_init_154 (by decide) ?_
  refine J_put (pc := 155) (t := 6) (k := 1) (ok_c hn 1 (by decide) rfl) (by decide) rfl ingX6 tyX6 tyX6_ok nmX6 (by decide) wd_227 rfl pfI (Nat.le_of_ble_eq_true rfl) rfl dX8_init_155 ?_
  exact J_fret hG h1 h2 dX8_init_158
theorem J_fapp (hG : Gok (Gm l D y ad sz 89)) (h1 : ad 0 = h0) (h2 : ∀ i, 1000 ≤ i → ad i = ext i) : ∀ (n i : Nat) (I : Mem), i + n = 22 → J (Gm l D y ad sz 89) (muF l D y sz h0 ext) 117 [some (.ref 0), some (.int (nI i))] [] I (f_apk f_fin n i I) := by
  have hn : Gn (Gm l D y ad sz 89) := Or.inl rfl
  intro n
  induction n with
  | zero =>
    intro i I hi
    have h22 : i = 22 := by omega
    subst h22
    refine J_iload_n (pc := 117) (x := nI 22) dX8_init_117 rfl ?_
    refine J_ldcS (pc := 118) (own := RX8) (tx := "kl;krbl;ktr;n30;p1,14;") 2 rfl (by decide) dX8_init_118 ?_
    refine J_str (pc := 120) (as := []) (st := [.int (nI 22)]) (c_slg hG hn 2 rfl I) (by decide) (cw_RX8_63 rfl) wd_606 wd_605 rfl ⟨Nat.le_of_ble_eq_true rfl, Nat.le_of_ble_eq_true rfl, Nat.le_of_ble_eq_true rfl, Nat.le_of_ble_eq_true rfl⟩ (Nat.le_of_ble_eq_true rfl) rfl dX8_init_120 ?_
    refine J_eq (F' := if slg 2 ≤ nI 22 then f_fin I else none) (if_pos (by decide +kernel)).symm ?_
    exact J_icmp_ge (pc := 123) (tgt := 145) dX8_init_123 (by decide) (J_ffin hG h1 h2 _) J_none
  | succ n ih =>
    intro i I hi
    have hlt : i < 22 := by omega
    have hc : inb (nI i) (sln.getD 2 0) = true := inb_n (n := 22) hlt (by decide)
    refine J_iload_n (pc := 117) (x := nI i) dX8_init_117 rfl ?_
    refine J_ldcS (pc := 118) (own := RX8) (tx := "kl;krbl;ktr;n30;p1,14;") 2 rfl (by decide) dX8_init_118 ?_
    refine J_str (pc := 120) (as := []) (st := [.int (nI i)]) (c_slg hG hn 2 rfl I) (by decide) (cw_RX8_63 rfl) wd_606 wd_605 rfl ⟨Nat.le_of_ble_eq_true rfl, Nat.le_of_ble_eq_true rfl, Nat.le_of_ble_eq_true rfl, Nat.le_of_ble_eq_true rfl⟩ (Nat.le_of_ble_eq_true rfl) rfl dX8_init_120 ?_
    refine J_eq (F' := if slg 2 ≤ nI i then none else f_apk f_fin (n + 1) i I) (if_neg (show ¬ nI 22 ≤ nI i from nI_ge (b := 22) hlt (by decide))).symm ?_
    refine J_icmp_ge (pc := 123) (tgt := 145) dX8_init_123 (by decide) J_none ?_
    refine J_aload_n (pc := 126) (x := 0) dX8_init_126 rfl ?_
    refine J_get (pc := 127) (t := 8) (k := 0) (.ref 1) (ok_c hn 0 (by decide) rfl) (by decide) rfl ingX8 (by decide) wd_0 rfl dX8_init_127 ?_
    refine J_ldcS (pc := 130) (own := RX8) (tx := "kl;krbl;ktr;n30;p1,14;") 2 rfl (by decide) dX8_init_130 ?_
    refine J_iload_n (pc := 132) (x := nI i) dX8_init_132 rfl ?_
    refine J_str (pc := 133) (as := [.int (nI i)]) (st := [.ref 1]) (c_sch hG hn 2 (by decide) (nI i) hc I) (by decide) (cw_RX8_69 rfl) wd_283 wd_284 rfl ⟨Nat.le_of_ble_eq_true rfl, Nat.le_of_ble_eq_true rfl, Nat.le_of_ble_eq_true rfl, Nat.le_of_ble_eq_true rfl⟩ (Nat.le_of_ble_eq_true rfl) rfl dX8_init_133 ?_
    refine J_callVv (pc := 136) (t := 6) (as := [.int (sch 2 (nI i))]) (st := []) (c_X6_append hG hn (sch 2 (nI i)) I) (ok_c hn 1 (by decide) rfl) (by decide) rfl (cw_RX8_73 rfl) wd_229 wd_228 rfl ⟨Nat.le_of_ble_eq_true rfl, Nat.le_of_ble_eq_true rfl, Nat.le_of_ble_eq_true rfl, Nat.le_of_ble_eq_true rfl⟩ (Nat.le_of_ble_eq_true rfl) rfl dX8_init_136 (fun I1 => ?_)
    refine J_iinc (pc := 139) (x := nI i) (d := (1 : Int32)) (ls' := [some (.ref 0), some (.int (nI (i + 1)))]) dX8_init_139 (by decide) rfl (Nat.le_of_ble_eq_true rfl) rfl (show ([some (.ref 0), some (.int (nI i + 1))] : List (Option Value)) = [some (.ref 0), some (.int (nI (i + 1)))] by rw [nI_1]) ?_
    refine J_goto (pc := 142) (tgt := 117) dX8_init_142 (by decide) ?_
    exact ih (i + 1) I1 (by omega)
theorem J_ctor (hG : Gok (Gm l D y ad sz 89)) (h1 : ad 0 = h0) (h2 : ∀ i, 1000 ≤ i → ad i = ext i) : J (Gm l D y ad sz 89) (muF l D y sz h0 ext) 115 [some (.ref 0), some (.int 4)] [] I (f_init I) := by
  refine J_iconst (pc := 115) (v := (0 : Int32)) dX8_init_115 (by decide) ?_
  refine J_istore_n (pc := 116) (ls' := [some (.ref 0), some (.int 0)]) dX8_init_116 (Nat.le_of_ble_eq_true rfl) rfl rfl ?_
  exact J_fapp hG h1 h2 22 0 I rfl
end FP
abbrev nul8 : List Value := [.null, .null, .null, .null, .null, .null, .null, .null]
abbrev fpP (l : Launch) (D : va_G) (y : Nat → ClassId) (sz h0 : Nat) (ext : Nat → Nat) : Array Value → State → Prop := va_Pc [.ref h0] (fun U => (sz ≤ h0 ∧ sz ≤ U.heap.size) ∧ va_P D vwCl [(h0, .inr (8, nul8))] U.heap ∧ va_K D vwCl (ytys y) U ∧ Nx y U ∧ Ex (Gm l D y ext sz 89) U)
theorem fpP_blind {l : Launch} {D : va_G} {y : Nat → ClassId} {sz h0 : Nat} {ext : Nat → Nat} : FrameBlind (fpP l D y sz h0 ext) := by
  intro a U g mk h
  obtain ⟨q0, q1, qP, qK, qN, qE⟩ := h
  exact ⟨q0, q1, qP, va_K.moved (u := U) (U := U.calling g mk a) (Vm.Alike.refl U.vm) qK, Nx.warm (U := U.calling g mk a) (State.WarmedH.refl U) qN, Ex_warm (U := U.calling g mk a) (State.WarmedH.refl U) (fun _ _ _ => rfl) qE⟩
theorem k_init (l : Launch) (D : va_G) (y : Nat → ClassId) (ext : Nat → Nat) (sz h0 : Nat) {I1 : Mem} (hf : f_init i0 = some I1) : Met l yX8_init (.code yX8_init cX8_init 2 none :: wsG) fpR (fpP l D y sz h0 ext) (fpQ l D y sz h0 ext I1) 88 5086 (fun q => sz ≤ q) := by
  refine Met.ofW (cc := cX8_init) (maxL := 2) (ret := none) (by decide) rfl ?_
  intro p e s m args below meth c s₁ B hml hv
  obtain ⟨rfl, ⟨hh0, hhs⟩, hP, hK, hN, hE⟩ := hv
  have hts := atoms_spec (ws := .code yX8_init cX8_init 2 none :: wsG) B.pre
  have hown : s.vm.findClass yX8_init.cls = some m.cls := findClass_of_methodNamed B.named
  have hin : meth.name = "<init>" := (name_of_methodNamed B.named B.method).1
  rw [lg_entry_eq]
  have hl := lv_entry ([.ref h0]) (n := 2) (Nat.le_of_ble_eq_true rfl)
  have hKx : Kx D y (fun q => sz ≤ q) yX8_init.cls cX8_init 2 p s m _ meth c := ⟨B.exec, B.bytes, hml, hown, fun w hw => hts w (List.mem_cons_of_mem _ hw), hK, hN, fun q hq => Nat.le_trans hhs hq, B.returns, B.notSynchronized, hin⟩
  have hD : va_D (fun q => sz ≤ q) ([(h0, .inr (8, nul8))] : va_W) := by
    refine ⟨fun i j p q hi hj _ => ?_, fun k q hk => ?_⟩
    · match i, j, hi, hj with
      | 0, 0, _, _ => rfl
      | i + 1, _, hi, _ => cases hi
      | 0, j + 1, _, hj => cases hj
    · match k, hk with
      | 0, hk => cases hk; exact hh0
      | k + 1, hk => cases hk
  refine k_fp h0 ext hKx (fun ad ha hx => ?_) s.heap [] _ hP hD va_S.rf hl
  intro H locs lsm hP1 hD1 hS1 hl1
  have hW : fpW y ad = wl (Gm l D y ad sz 89) i0 := rfl
  rw [hW] at hP1 hD1
  have hG : Gok (Gm l D y ad sz 89) := ⟨fun i j hi hj h => hD1.1 i j _ _ (wl_get hi) (wl_get hj) h, fun i hi => hD1.2 i _ (wl_get hi)⟩
  have hl2 : lv_has lsm 2 (lvl (Gm l D y ad sz 89) 0 [some (.ref 0), some (.int 4)]) := by
    show lv_has lsm 2 [(0, .ref (ad 0)), (1, .int 4)]
    rw [ha]
    exact hl1
  exact J_ctor (ext := ext) (h0 := h0) (I := i0) hG ha hx p e s m _ below meth c ⟨B.exec, B.bytes, hml, hown, fun w hw => hts w (List.mem_cons_of_mem _ hw), hK, Ex_ad hx hE, hG, B.returns, B.notSynchronized⟩ I1 hf H locs lsm hP1 hS1 hl2
