abbrev mu_X9_turned (G : Gt) : Mt (Int32 × Mem) := mi G cX9_turned 5 yX9_turned.cls (some .int) 4 102
def b_X9_turned_30 (K71 : Int32 → Mem → Option (Int32 × Mem)) (R : Int32 → Int32 → Int32 → Int32 → Mem → Option (Int32 × Mem)) (x1 : Int32) (x2 : Int32) (x3 : Int32) (x4 : Int32) (I : Mem) : Option (Int32 × Mem) :=
  bI (f_X9_pagesOf x1 I) fun r7 I6 => (if r7 ≤ x4 then K71 x3 I6 else ck (inb x4 32) <| (if (I6 98 (tn x4)) = x2 then ck (inb x4 32) <| R x1 x2 (x3 + (I6 99 (tn x4))) (x4 + (1 : Int32)) I6 else R x1 x2 (x3 + (0 : Int32)) (x4 + (1 : Int32)) I6))
def l_X9_turned_30 (K71 : Int32 → Mem → Option (Int32 × Mem)) : Nat → Int32 → Int32 → Int32 → Int32 → Mem → Option (Int32 × Mem) := fx (b_X9_turned_30 K71) (fun _ _ _ _ _ => none)
def f_X9_turned (x1 : Int32) (x2 : Int32) (I : Mem) : Option (Int32 × Mem) :=
  bI (f_X9_isScheme x1 I) fun r2 I1 => (if r2 = 0 then some ((-1 : Int32), I1) else bI (f_X9_in ((x2).toInt64) (0 : Int64) (1 : Int64) I1) fun r4 I3 => (if r4 = 0 then some ((-1 : Int32), I3) else bV (f_X9_lays x1 I3) fun I5 => l_X9_turned_30 (fun (z10 : Int32) I11 => some (z10, I11)) fuel x1 x2 (0 : Int32) (0 : Int32) I5))
set_option maxRecDepth 100000 in
theorem tb_X9_turned_30 {G : Gt} (hG : Gok G) (hn : gn G = 104) {K71 : Int32 → Mem → Option (Int32 × Mem)} (hK71 : ∀ (x3 : Int32) (I : Mem), J G (mu_X9_turned G) 71 [none, none, none, some (.int x3), none] [] I (K71 x3 I)) {R : Int32 → Int32 → Int32 → Int32 → Mem → Option (Int32 × Mem)} (hR : ∀ (x1 : Int32) (x2 : Int32) (x3 : Int32) (x4 : Int32) (I : Mem), J G (mu_X9_turned G) 30 [some (.ref 89), some (.int x1), some (.int x2), some (.int x3), some (.int x4)] [] I (R x1 x2 x3 x4 I)) (x1 : Int32) (x2 : Int32) (x3 : Int32) (x4 : Int32) (I : Mem) : J G (mu_X9_turned G) 30 [some (.ref 89), some (.int x1), some (.int x2), some (.int x3), some (.int x4)] [] I (b_X9_turned_30 K71 R x1 x2 x3 x4 I) := by
  unfold b_X9_turned_30
  refine J_iload (pc := 30) (x := x4) dX9_turned_30 rfl ?_
  refine J_aload_n (pc := 32) (x := 89) dX9_turned_32 rfl ?_
  refine J_iload_n (pc := 33) (x := x1) dX9_turned_33 rfl ?_
  refine J_callVi (pc := 34) (t := 9) (as := [.int x1]) (st := [.int x4]) (c_X9_pagesOf hG hn x1 I) (ok_m hn 89 (by decide) rfl) (by decide) rfl (cw_RX9_151 rfl) wd_495 wd_494 rfl ⟨Nat.le_of_ble_eq_true rfl, Nat.le_of_ble_eq_true rfl, Nat.le_of_ble_eq_true rfl, Nat.le_of_ble_eq_true rfl⟩ (Nat.le_of_ble_eq_true rfl) rfl dX9_turned_34 (fun r7 I6 => ?_)
  refine J_icmp_ge (pc := 37) (tgt := 71) dX9_turned_37 (by decide) ?_ ?_
  · refine J_weak (ls' := [none, none, none, some (.int x3), none]) ⟨rfl, trivial⟩ ?_
    exact hK71 x3 I6
  · refine J_iload_n (pc := 40) (x := x3) dX9_turned_40 rfl ?_
    refine J_aload_n (pc := 41) (x := 89) dX9_turned_41 rfl ?_
    refine J_get (pc := 42) (t := 9) (k := 14) (.ref 98) (ok_m hn 89 (by decide) rfl) (by decide) rfl ingX9 (by decide) wd_534 rfl dX9_turned_42 ?_
    refine J_iload (pc := 45) (x := x4) dX9_turned_45 rfl ?_
    refine J_ck (fun hc8 => ?_)
    refine J_ild (pc := 47) (t := 38) (k := (tn x4)) (ok_m hn 98 (by decide) rfl) iT_38 (inb_in hc8) rfl dX9_turned_47 ?_
    refine J_iload_n (pc := 48) (x := x2) dX9_turned_48 rfl ?_
    refine J_icmp_ne (pc := 49) (tgt := 62) dX9_turned_49 (by decide) ?_ ?_
    · refine J_aload_n (pc := 52) (x := 89) dX9_turned_52 rfl ?_
      refine J_get (pc := 53) (t := 9) (k := 15) (.ref 99) (ok_m hn 89 (by decide) rfl) (by decide) rfl ingX9 (by decide) wd_535 rfl dX9_turned_53 ?_
      refine J_iload (pc := 56) (x := x4) dX9_turned_56 rfl ?_
      refine J_ck (fun hc9 => ?_)
      refine J_ild (pc := 58) (t := 39) (k := (tn x4)) (ok_m hn 99 (by decide) rfl) iT_39 (inb_in hc9) rfl dX9_turned_58 ?_
      refine J_goto (pc := 59) (tgt := 63) dX9_turned_59 (by decide) ?_
      refine J_iadd (pc := 63) dX9_turned_63 ?_
      refine J_istore_n (pc := 64) (ls' := [some (.ref 89), some (.int x1), some (.int x2), some (.int (x3 + (I6 99 (tn x4)))), some (.int x4)]) dX9_turned_64 (Nat.le_of_ble_eq_true rfl) rfl rfl ?_
      refine J_iinc (pc := 65) (d := (1 : Int32)) (ls' := [some (.ref 89), some (.int x1), some (.int x2), some (.int (x3 + (I6 99 (tn x4)))), some (.int (x4 + (1 : Int32)))]) dX9_turned_65 (by decide) rfl (Nat.le_of_ble_eq_true rfl) rfl rfl ?_
      refine J_goto (pc := 68) (tgt := 30) dX9_turned_68 (by decide) ?_
      exact hR x1 x2 (x3 + (I6 99 (tn x4))) (x4 + (1 : Int32)) I6
    · refine J_iconst (pc := 62) (v := (0 : Int32)) dX9_turned_62 (by decide) ?_
      refine J_iadd (pc := 63) dX9_turned_63 ?_
      refine J_istore_n (pc := 64) (ls' := [some (.ref 89), some (.int x1), some (.int x2), some (.int (x3 + (0 : Int32))), some (.int x4)]) dX9_turned_64 (Nat.le_of_ble_eq_true rfl) rfl rfl ?_
      refine J_iinc (pc := 65) (d := (1 : Int32)) (ls' := [some (.ref 89), some (.int x1), some (.int x2), some (.int (x3 + (0 : Int32))), some (.int (x4 + (1 : Int32)))]) dX9_turned_65 (by decide) rfl (Nat.le_of_ble_eq_true rfl) rfl rfl ?_
      refine J_goto (pc := 68) (tgt := 30) dX9_turned_68 (by decide) ?_
      exact hR x1 x2 (x3 + (0 : Int32)) (x4 + (1 : Int32)) I6
theorem tl_X9_turned_30 {G : Gt} (hG : Gok G) (hn : gn G = 104) {K71 : Int32 → Mem → Option (Int32 × Mem)} (hK71 : ∀ (x3 : Int32) (I : Mem), J G (mu_X9_turned G) 71 [none, none, none, some (.int x3), none] [] I (K71 x3 I)) (n : Nat) : ∀ (x1 : Int32) (x2 : Int32) (x3 : Int32) (x4 : Int32) (I : Mem), J G (mu_X9_turned G) 30 [some (.ref 89), some (.int x1), some (.int x2), some (.int x3), some (.int x4)] [] I (l_X9_turned_30 K71 n x1 x2 x3 x4 I) := by
  induction n with
  | zero => intro x1 x2 x3 x4 I; exact J_none
  | succ n ih => intro x1 x2 x3 x4 I; exact tb_X9_turned_30 hG hn hK71 ih x1 x2 x3 x4 I
set_option maxRecDepth 100000 in
theorem c_X9_turned {G : Gt} (hG : Gok G) (hn : gn G = 104) (x1 : Int32) (x2 : Int32) (I : Mem) : Cti G yX9_turned cX9_turned 5 (some .int) 4 102 [.ref 89, .int x1, .int x2] I (f_X9_turned x1 x2 I) := by
  refine Cti.of (ls := [some (.ref 89), some (.int x1), some (.int x2), none, none]) 2 hG (by decide) rfl (Nat.le_of_ble_eq_true rfl) ?_
  unfold f_X9_turned
  refine J_aload_n (pc := 0) (x := 89) dX9_turned_0 rfl ?_
  refine J_iload_n (pc := 1) (x := x1) dX9_turned_1 rfl ?_
  refine J_callVi (pc := 2) (t := 9) (as := [.int x1]) (st := []) (c_X9_isScheme hG hn x1 I) (ok_m hn 89 (by decide) rfl) (by decide) rfl (cw_RX9_122 rfl) wd_485 wd_484 rfl ⟨Nat.le_of_ble_eq_true rfl, Nat.le_of_ble_eq_true rfl, Nat.le_of_ble_eq_true rfl, Nat.le_of_ble_eq_true rfl⟩ (Nat.le_of_ble_eq_true rfl) rfl dX9_turned_2 (fun r2 I1 => ?_)
  refine J_if_eq (pc := 5) (tgt := 18) dX9_turned_5 (by decide) ?_ ?_
  · refine J_iconst (pc := 18) (v := (-1 : Int32)) dX9_turned_18 (by decide) ?_
    exact J_iret (pc := 19) dX9_turned_19
  · refine J_iload_n (pc := 8) (x := x2) dX9_turned_8 rfl ?_
    refine J_i2l (pc := 9) dX9_turned_9 ?_
    refine J_lconst (pc := 10) (v := (0 : Int64)) dX9_turned_10 (by decide) ?_
    refine J_lconst (pc := 11) (v := (1 : Int64)) dX9_turned_11 (by decide) ?_
    refine J_callSi (pc := 12) (as := [.long ((x2).toInt64), .long (0 : Int64), .long (1 : Int64)]) (st := []) (c_X9_in hG hn ((x2).toInt64) (0 : Int64) (1 : Int64) I1) (cw_RX9_57 rfl) wd_425 rfl ⟨Nat.le_of_ble_eq_true rfl, Nat.le_of_ble_eq_true rfl, Nat.le_of_ble_eq_true rfl, Nat.le_of_ble_eq_true rfl⟩ (Nat.le_of_ble_eq_true rfl) rfl dX9_turned_12 (fun r4 I3 => ?_)
    refine J_if_ne (pc := 15) (tgt := 20) dX9_turned_15 (by decide) ?_ ?_
    · refine J_iconst (pc := 18) (v := (-1 : Int32)) dX9_turned_18 (by decide) ?_
      exact J_iret (pc := 19) dX9_turned_19
    · refine J_aload_n (pc := 20) (x := 89) dX9_turned_20 rfl ?_
      refine J_iload_n (pc := 21) (x := x1) dX9_turned_21 rfl ?_
      refine J_callVv (pc := 22) (t := 9) (as := [.int x1]) (st := []) (c_X9_lays hG hn x1 I3) (ok_m hn 89 (by decide) rfl) (by decide) rfl (cw_RX9_160 rfl) wd_541 wd_540 rfl ⟨Nat.le_of_ble_eq_true rfl, Nat.le_of_ble_eq_true rfl, Nat.le_of_ble_eq_true rfl, Nat.le_of_ble_eq_true rfl⟩ (Nat.le_of_ble_eq_true rfl) rfl dX9_turned_22 (fun I5 => ?_)
      refine J_iconst (pc := 25) (v := (0 : Int32)) dX9_turned_25 (by decide) ?_
      refine J_istore_n (pc := 26) (ls' := [some (.ref 89), some (.int x1), some (.int x2), some (.int (0 : Int32)), none]) dX9_turned_26 (Nat.le_of_ble_eq_true rfl) rfl rfl ?_
      refine J_iconst (pc := 27) (v := (0 : Int32)) dX9_turned_27 (by decide) ?_
      refine J_istore (pc := 28) (ls' := [some (.ref 89), some (.int x1), some (.int x2), some (.int (0 : Int32)), some (.int (0 : Int32))]) dX9_turned_28 (Nat.le_of_ble_eq_true rfl) rfl rfl ?_
      refine tl_X9_turned_30 hG hn (fun z10 I11 => ?_) fuel x1 x2 (0 : Int32) (0 : Int32) I5
      · refine J_iload_n (pc := 71) (x := z10) dX9_turned_71 rfl ?_
        exact J_iret (pc := 72) dX9_turned_72
abbrev mu_X9_letterOf (G : Gt) : Mt (Int32 × Mem) := mi G cX9_letterOf 1 yX9_letterOf.cls (some .int) 0 0
def f_X9_letterOf (x0 : Int32) (I : Mem) : Option (Int32 × Mem) :=
  (if x0 = 0 then some ((98 : Int32), I) else (if x0 = (1 : Int32) then some ((108 : Int32), I) else (if x0 = (2 : Int32) then some ((114 : Int32), I) else some ((116 : Int32), I))))
set_option maxRecDepth 100000 in
theorem c_X9_letterOf {G : Gt} (hG : Gok G) (hn : gn G = 104) (x0 : Int32) (I : Mem) : Cti G yX9_letterOf cX9_letterOf 1 (some .int) 0 0 [.int x0] I (f_X9_letterOf x0 I) := by
  refine Cti.of (ls := [some (.int x0)]) 0 hG (by decide) rfl (Nat.le_of_ble_eq_true rfl) ?_
  unfold f_X9_letterOf
  refine J_iload_n (pc := 0) (x := x0) dX9_letterOf_0 rfl ?_
  refine J_if_ne (pc := 1) (tgt := 9) dX9_letterOf_1 (by decide) ?_ ?_
  · refine J_bipush (pc := 4) (v := (98 : Int32)) dX9_letterOf_4 (by decide) ?_
    refine J_goto (pc := 6) (tgt := 31) dX9_letterOf_6 (by decide) ?_
    exact J_iret (pc := 31) dX9_letterOf_31
  · refine J_iload_n (pc := 9) (x := x0) dX9_letterOf_9 rfl ?_
    refine J_iconst (pc := 10) (v := (1 : Int32)) dX9_letterOf_10 (by decide) ?_
    refine J_icmp_ne (pc := 11) (tgt := 19) dX9_letterOf_11 (by decide) ?_ ?_
    · refine J_bipush (pc := 14) (v := (108 : Int32)) dX9_letterOf_14 (by decide) ?_
      refine J_goto (pc := 16) (tgt := 31) dX9_letterOf_16 (by decide) ?_
      exact J_iret (pc := 31) dX9_letterOf_31
    · refine J_iload_n (pc := 19) (x := x0) dX9_letterOf_19 rfl ?_
      refine J_iconst (pc := 20) (v := (2 : Int32)) dX9_letterOf_20 (by decide) ?_
      refine J_icmp_ne (pc := 21) (tgt := 29) dX9_letterOf_21 (by decide) ?_ ?_
      · refine J_bipush (pc := 24) (v := (114 : Int32)) dX9_letterOf_24 (by decide) ?_
        refine J_goto (pc := 26) (tgt := 31) dX9_letterOf_26 (by decide) ?_
        exact J_iret (pc := 31) dX9_letterOf_31
      · refine J_bipush (pc := 29) (v := (116 : Int32)) dX9_letterOf_29 (by decide) ?_
        exact J_iret (pc := 31) dX9_letterOf_31
abbrev mu_X9_isText (G : Gt) : Mt (Int32 × Mem) := mi G cX9_isText 4 yX9_isText.cls (some .boolean) 1 20
def b_X9_isText_7 (K38 : Int32 → Mem → Option (Int32 × Mem)) (R : Int32 → Int32 → Int32 → Mem → Option (Int32 × Mem)) (x1 : Int32) (x2 : Int32) (x3 : Int32) (I : Mem) : Option (Int32 × Mem) :=
  (if x1 ≤ x3 then K38 x1 I else bI (f_X9_letterOf ((x2 >>> (((2 : Int32) * ((x1 - (1 : Int32)) - x3)) &&& 31)) &&& (3 : Int32)) I) fun r2 I1 => ck (inb x3 4) <| R x1 x2 (x3 + (1 : Int32)) (stm I1 94 (tn x3) r2))
def l_X9_isText_7 (K38 : Int32 → Mem → Option (Int32 × Mem)) : Nat → Int32 → Int32 → Int32 → Mem → Option (Int32 × Mem) := fx (b_X9_isText_7 K38) (fun _ _ _ _ => none)
def f_X9_isText (x1 : Int32) (x2 : Int32) (I : Mem) : Option (Int32 × Mem) :=
  l_X9_isText_7 (fun (z4 : Int32) I5 => ck (inb (z4 - (1 : Int32)) 4) <| bI (f_X9_isSide (I5 94 (tn (z4 - (1 : Int32)))) I5) fun r8 I7 => ck (r8 == 0 || r8 == 1) <| some (r8, I7)) fuel x1 x2 (0 : Int32) (stm I 89 8 x1)
set_option maxRecDepth 100000 in
theorem tb_X9_isText_7 {G : Gt} (hG : Gok G) (hn : gn G = 104) {K38 : Int32 → Mem → Option (Int32 × Mem)} (hK38 : ∀ (x1 : Int32) (I : Mem), J G (mu_X9_isText G) 38 [some (.ref 89), some (.int x1), none, none] [] I (K38 x1 I)) {R : Int32 → Int32 → Int32 → Mem → Option (Int32 × Mem)} (hR : ∀ (x1 : Int32) (x2 : Int32) (x3 : Int32) (I : Mem), J G (mu_X9_isText G) 7 [some (.ref 89), some (.int x1), some (.int x2), some (.int x3)] [] I (R x1 x2 x3 I)) (x1 : Int32) (x2 : Int32) (x3 : Int32) (I : Mem) : J G (mu_X9_isText G) 7 [some (.ref 89), some (.int x1), some (.int x2), some (.int x3)] [] I (b_X9_isText_7 K38 R x1 x2 x3 I) := by
  unfold b_X9_isText_7
  refine J_iload_n (pc := 7) (x := x3) dX9_isText_7 rfl ?_
  refine J_iload_n (pc := 8) (x := x1) dX9_isText_8 rfl ?_
  refine J_icmp_ge (pc := 9) (tgt := 38) dX9_isText_9 (by decide) ?_ ?_
  · refine J_weak (ls' := [some (.ref 89), some (.int x1), none, none]) ⟨rfl, rfl, trivial⟩ ?_
    exact hK38 x1 I
  · refine J_aload_n (pc := 12) (x := 89) dX9_isText_12 rfl ?_
    refine J_get (pc := 13) (t := 9) (k := 7) (.ref 94) (ok_m hn 89 (by decide) rfl) (by decide) rfl ingX9 (by decide) wd_523 rfl dX9_isText_13 ?_
    refine J_iload_n (pc := 16) (x := x3) dX9_isText_16 rfl ?_
    refine J_iload_n (pc := 17) (x := x2) dX9_isText_17 rfl ?_
    refine J_iconst (pc := 18) (v := (2 : Int32)) dX9_isText_18 (by decide) ?_
    refine J_iload_n (pc := 19) (x := x1) dX9_isText_19 rfl ?_
    refine J_iconst (pc := 20) (v := (1 : Int32)) dX9_isText_20 (by decide) ?_
    refine J_isub (pc := 21) dX9_isText_21 ?_
    refine J_iload_n (pc := 22) (x := x3) dX9_isText_22 rfl ?_
    refine J_isub (pc := 23) dX9_isText_23 ?_
    refine J_imul (pc := 24) dX9_isText_24 ?_
    refine J_ishr (pc := 25) dX9_isText_25 ?_
    refine J_iconst (pc := 26) (v := (3 : Int32)) dX9_isText_26 (by decide) ?_
    refine J_iand (pc := 27) dX9_isText_27 ?_
    refine J_callSi (pc := 28) (as := [.int ((x2 >>> (((2 : Int32) * ((x1 - (1 : Int32)) - x3)) &&& 31)) &&& (3 : Int32))]) (st := [.int x3, .ref 94]) (c_X9_letterOf hG hn ((x2 >>> (((2 : Int32) * ((x1 - (1 : Int32)) - x3)) &&& 31)) &&& (3 : Int32)) I) (cw_RX9_166 rfl) wd_549 rfl ⟨Nat.le_of_ble_eq_true rfl, Nat.le_of_ble_eq_true rfl, Nat.le_of_ble_eq_true rfl, Nat.le_of_ble_eq_true rfl⟩ (Nat.le_of_ble_eq_true rfl) rfl dX9_isText_28 (fun r2 I1 => ?_)
    refine J_ck (fun hc3 => ?_)
    refine J_ist (pc := 31) (t := 34) (k := (tn x3)) (ok_m hn 94 (by decide) rfl) iT_34 (inb_in hc3) rfl dX9_isText_31 ?_
    refine J_iinc (pc := 32) (d := (1 : Int32)) (ls' := [some (.ref 89), some (.int x1), some (.int x2), some (.int (x3 + (1 : Int32)))]) dX9_isText_32 (by decide) rfl (Nat.le_of_ble_eq_true rfl) rfl rfl ?_
    refine J_goto (pc := 35) (tgt := 7) dX9_isText_35 (by decide) ?_
    exact hR x1 x2 (x3 + (1 : Int32)) (stm I1 94 (tn x3) r2)
theorem tl_X9_isText_7 {G : Gt} (hG : Gok G) (hn : gn G = 104) {K38 : Int32 → Mem → Option (Int32 × Mem)} (hK38 : ∀ (x1 : Int32) (I : Mem), J G (mu_X9_isText G) 38 [some (.ref 89), some (.int x1), none, none] [] I (K38 x1 I)) (n : Nat) : ∀ (x1 : Int32) (x2 : Int32) (x3 : Int32) (I : Mem), J G (mu_X9_isText G) 7 [some (.ref 89), some (.int x1), some (.int x2), some (.int x3)] [] I (l_X9_isText_7 K38 n x1 x2 x3 I) := by
  induction n with
  | zero => intro x1 x2 x3 I; exact J_none
  | succ n ih => intro x1 x2 x3 I; exact tb_X9_isText_7 hG hn hK38 ih x1 x2 x3 I
set_option maxRecDepth 100000 in
theorem c_X9_isText {G : Gt} (hG : Gok G) (hn : gn G = 104) (x1 : Int32) (x2 : Int32) (I : Mem) : Cti G yX9_isText cX9_isText 4 (some .boolean) 1 20 [.ref 89, .int x1, .int x2] I (f_X9_isText x1 x2 I) := by
  refine Cti.of (ls := [some (.ref 89), some (.int x1), some (.int x2), none]) 1 hG (by decide) rfl (Nat.le_of_ble_eq_true rfl) ?_
  unfold f_X9_isText
  refine J_aload_n (pc := 0) (x := 89) dX9_isText_0 rfl ?_
  refine J_iload_n (pc := 1) (x := x1) dX9_isText_1 rfl ?_
  refine J_put (pc := 2) (t := 9) (k := 8) (ok_m hn 89 (by decide) rfl) (by decide) rfl ingX9 tyX9 tyX9_ok nmX9 (by decide) wd_522 rfl pfI (Nat.le_of_ble_eq_true rfl) rfl dX9_isText_2 ?_
  refine J_iconst (pc := 5) (v := (0 : Int32)) dX9_isText_5 (by decide) ?_
  refine J_istore_n (pc := 6) (ls' := [some (.ref 89), some (.int x1), some (.int x2), some (.int (0 : Int32))]) dX9_isText_6 (Nat.le_of_ble_eq_true rfl) rfl rfl ?_
  refine tl_X9_isText_7 hG hn (fun z4 I5 => ?_) fuel x1 x2 (0 : Int32) (stm I 89 8 x1)
  · refine J_aload_n (pc := 38) (x := 89) dX9_isText_38 rfl ?_
    refine J_get (pc := 39) (t := 9) (k := 7) (.ref 94) (ok_m hn 89 (by decide) rfl) (by decide) rfl ingX9 (by decide) wd_523 rfl dX9_isText_39 ?_
    refine J_iload_n (pc := 42) (x := z4) dX9_isText_42 rfl ?_
    refine J_iconst (pc := 43) (v := (1 : Int32)) dX9_isText_43 (by decide) ?_
    refine J_isub (pc := 44) dX9_isText_44 ?_
    refine J_ck (fun hc6 => ?_)
    refine J_ild (pc := 45) (t := 34) (k := (tn (z4 - (1 : Int32)))) (ok_m hn 94 (by decide) rfl) iT_34 (inb_in hc6) rfl dX9_isText_45 ?_
    refine J_callSi (pc := 46) (as := [.int (I5 94 (tn (z4 - (1 : Int32))))]) (st := []) (c_X9_isSide hG hn (I5 94 (tn (z4 - (1 : Int32)))) I5) (cw_RX9_80 rfl) wd_452 rfl ⟨Nat.le_of_ble_eq_true rfl, Nat.le_of_ble_eq_true rfl, Nat.le_of_ble_eq_true rfl, Nat.le_of_ble_eq_true rfl⟩ (Nat.le_of_ble_eq_true rfl) rfl dX9_isText_46 (fun r8 I7 => ?_)
    refine J_ck (fun hc9 => ?_)
    exact J_zret (pc := 49) (nar01 hc9) dX9_isText_49
abbrev mu_X9_find (G : Gt) : Mt (Int32 × Mem) := mi G cX9_find 9 yX9_find.cls (some .int) 3 80
def b_X9_find_66 (K147 : Int32 → Mem → Option (Int32 × Mem)) (K156 : Mem → Option (Int32 × Mem)) (R : Int32 → Int32 → Int32 → Int32 → Int32 → Int32 → Mem → Option (Int32 × Mem)) (x1 : Int32) (x2 : Int32) (x3 : Int32) (x4 : Int32) (x5 : Int32) (x6 : Int32) (I : Mem) : Option (Int32 × Mem) :=
  (if ((1 : Int32) <<< (((2 : Int32) * x1) &&& 31)) ≤ x6 then K156 I else bI (f_X9_isText x1 x6 I) fun r12 I11 => (if r12 = 0 then R x1 x2 x3 x4 x5 (x6 + (1 : Int32)) I11 else bV (f_X9_foldAll I11) fun I13 => (if (I13 89 16) ≤ x4 then (if (0 : Int32) = 0 then R x1 x2 x3 x4 x5 (x6 + (1 : Int32)) I13 else K147 x6 I13) else ck (inb (x2 - (1 : Int32)) 32) <| (if (I13 97 (tn (x2 - (1 : Int32)))) = ((x5 * (I13 89 16)) + x4) then ck (inb (x2 - (1 : Int32)) 32) <| (if (I13 98 (tn (x2 - (1 : Int32)))) = x3 then (if (1 : Int32) = 0 then R x1 x2 x3 x4 x5 (x6 + (1 : Int32)) I13 else K147 x6 I13) else (if (0 : Int32) = 0 then R x1 x2 x3 x4 x5 (x6 + (1 : Int32)) I13 else K147 x6 I13)) else (if (0 : Int32) = 0 then R x1 x2 x3 x4 x5 (x6 + (1 : Int32)) I13 else K147 x6 I13)))))
def l_X9_find_66 (K147 : Int32 → Mem → Option (Int32 × Mem)) (K156 : Mem → Option (Int32 × Mem)) : Nat → Int32 → Int32 → Int32 → Int32 → Int32 → Int32 → Mem → Option (Int32 × Mem) := fx (b_X9_find_66 K147 K156) (fun _ _ _ _ _ _ _ => none)
def f_X9_find (x1 : Int32) (x2 : Int32) (x3 : Int32) (x4 : Int32) (x5 : Int32) (I : Mem) : Option (Int32 × Mem) :=
  bI (f_X9_in ((x1).toInt64) (1 : Int64) (4 : Int64) I) fun r2 I1 => (if r2 = 0 then some ((-1 : Int32), I1) else bI (f_X9_in ((x2).toInt64) (1 : Int64) ((((2 : Int32) <<< (x1 &&& 31))).toInt64) I1) fun r4 I3 => (if r4 = 0 then some ((-1 : Int32), I3) else bI (f_X9_in ((x3).toInt64) (0 : Int64) (1 : Int64) I3) fun r6 I5 => (if r6 = 0 then some ((-1 : Int32), I5) else bI (f_X9_in ((x4).toInt64) (0 : Int64) (15 : Int64) I5) fun r8 I7 => (if r8 = 0 then some ((-1 : Int32), I7) else bI (f_X9_in ((x5).toInt64) (0 : Int64) (15 : Int64) I7) fun r10 I9 => (if r10 = 0 then some ((-1 : Int32), I9) else l_X9_find_66 (fun (z16 : Int32) I17 => some (z16, I17)) (fun I18 => some ((-4 : Int32), I18)) fuel x1 x2 x3 x4 x5 (0 : Int32) I9)))))
set_option maxRecDepth 100000 in
theorem tb_X9_find_66 {G : Gt} (hG : Gok G) (hn : gn G = 104) {K147 : Int32 → Mem → Option (Int32 × Mem)} (hK147 : ∀ (x6 : Int32) (I : Mem), J G (mu_X9_find G) 147 [none, none, none, none, none, none, some (.int x6), none, none] [] I (K147 x6 I)) {K156 : Mem → Option (Int32 × Mem)} (hK156 : ∀ (I : Mem), J G (mu_X9_find G) 156 [none, none, none, none, none, none, none, none, none] [] I (K156 I)) {R : Int32 → Int32 → Int32 → Int32 → Int32 → Int32 → Mem → Option (Int32 × Mem)} (hR : ∀ (x1 : Int32) (x2 : Int32) (x3 : Int32) (x4 : Int32) (x5 : Int32) (x6 : Int32) (I : Mem), J G (mu_X9_find G) 66 [some (.ref 89), some (.int x1), some (.int x2), some (.int x3), some (.int x4), some (.int x5), some (.int x6), none, none] [] I (R x1 x2 x3 x4 x5 x6 I)) (x1 : Int32) (x2 : Int32) (x3 : Int32) (x4 : Int32) (x5 : Int32) (x6 : Int32) (I : Mem) : J G (mu_X9_find G) 66 [some (.ref 89), some (.int x1), some (.int x2), some (.int x3), some (.int x4), some (.int x5), some (.int x6), none, none] [] I (b_X9_find_66 K147 K156 R x1 x2 x3 x4 x5 x6 I) := by
  unfold b_X9_find_66
  refine J_iload (pc := 66) (x := x6) dX9_find_66 rfl ?_
  refine J_iconst (pc := 68) (v := (1 : Int32)) dX9_find_68 (by decide) ?_
  refine J_iconst (pc := 69) (v := (2 : Int32)) dX9_find_69 (by decide) ?_
  refine J_iload_n (pc := 70) (x := x1) dX9_find_70 rfl ?_
  refine J_imul (pc := 71) dX9_find_71 ?_
  refine J_ishl (pc := 72) dX9_find_72 ?_
  refine J_icmp_ge (pc := 73) (tgt := 156) dX9_find_73 (by decide) ?_ ?_
  · refine J_weak (ls' := [none, none, none, none, none, none, none, none, none]) trivial ?_
    exact hK156 I
  · refine J_aload_n (pc := 76) (x := 89) dX9_find_76 rfl ?_
    refine J_iload_n (pc := 77) (x := x1) dX9_find_77 rfl ?_
    refine J_iload (pc := 78) (x := x6) dX9_find_78 rfl ?_
    refine J_callVi (pc := 80) (t := 9) (as := [.int x1, .int x6]) (st := []) (c_X9_isText hG hn x1 x6 I) (ok_m hn 89 (by decide) rfl) (by decide) rfl (cw_RX9_171 rfl) wd_553 wd_552 rfl ⟨Nat.le_of_ble_eq_true rfl, Nat.le_of_ble_eq_true rfl, Nat.le_of_ble_eq_true rfl, Nat.le_of_ble_eq_true rfl⟩ (Nat.le_of_ble_eq_true rfl) rfl dX9_find_80 (fun r12 I11 => ?_)
    refine J_if_eq (pc := 83) (tgt := 150) dX9_find_83 (by decide) ?_ ?_
    · refine J_iinc (pc := 150) (d := (1 : Int32)) (ls' := [some (.ref 89), some (.int x1), some (.int x2), some (.int x3), some (.int x4), some (.int x5), some (.int (x6 + (1 : Int32))), none, none]) dX9_find_150 (by decide) rfl (Nat.le_of_ble_eq_true rfl) rfl rfl ?_
      refine J_goto (pc := 153) (tgt := 66) dX9_find_153 (by decide) ?_
      exact hR x1 x2 x3 x4 x5 (x6 + (1 : Int32)) I11
    · refine J_aload_n (pc := 86) (x := 89) dX9_find_86 rfl ?_
      refine J_callVv (pc := 87) (t := 9) (as := []) (st := []) (c_X9_foldAll hG hn I11) (ok_m hn 89 (by decide) rfl) (by decide) rfl (cw_RX9_130 rfl) wd_537 wd_536 rfl ⟨Nat.le_of_ble_eq_true rfl, Nat.le_of_ble_eq_true rfl, Nat.le_of_ble_eq_true rfl, Nat.le_of_ble_eq_true rfl⟩ (Nat.le_of_ble_eq_true rfl) rfl dX9_find_87 (fun I13 => ?_)
      refine J_iload_n (pc := 90) (x := x2) dX9_find_90 rfl ?_
      refine J_iconst (pc := 91) (v := (1 : Int32)) dX9_find_91 (by decide) ?_
      refine J_isub (pc := 92) dX9_find_92 ?_
      refine J_istore (pc := 93) (ls' := [some (.ref 89), some (.int x1), some (.int x2), some (.int x3), some (.int x4), some (.int x5), some (.int x6), some (.int (x2 - (1 : Int32))), none]) dX9_find_93 (Nat.le_of_ble_eq_true rfl) rfl rfl ?_
      refine J_iload (pc := 95) (x := x4) dX9_find_95 rfl ?_
      refine J_aload_n (pc := 97) (x := 89) dX9_find_97 rfl ?_
      refine J_get (pc := 98) (t := 9) (k := 16) (.int (I13 89 16)) (ok_m hn 89 (by decide) rfl) (by decide) rfl ingX9 (by decide) wd_526 rfl dX9_find_98 ?_
      refine J_icmp_ge (pc := 101) (tgt := 139) dX9_find_101 (by decide) ?_ ?_
      · refine J_iconst (pc := 139) (v := (0 : Int32)) dX9_find_139 (by decide) ?_
        refine J_istore (pc := 140) (ls' := [some (.ref 89), some (.int x1), some (.int x2), some (.int x3), some (.int x4), some (.int x5), some (.int x6), some (.int (x2 - (1 : Int32))), some (.int (0 : Int32))]) dX9_find_140 (Nat.le_of_ble_eq_true rfl) rfl rfl ?_
        refine J_iload (pc := 142) (x := (0 : Int32)) dX9_find_142 rfl ?_
        refine J_if_eq (pc := 144) (tgt := 150) dX9_find_144 (by decide) ?_ ?_
        · refine J_iinc (pc := 150) (d := (1 : Int32)) (ls' := [some (.ref 89), some (.int x1), some (.int x2), some (.int x3), some (.int x4), some (.int x5), some (.int (x6 + (1 : Int32))), some (.int (x2 - (1 : Int32))), some (.int (0 : Int32))]) dX9_find_150 (by decide) rfl (Nat.le_of_ble_eq_true rfl) rfl rfl ?_
          refine J_goto (pc := 153) (tgt := 66) dX9_find_153 (by decide) ?_
          refine J_weak (ls' := [some (.ref 89), some (.int x1), some (.int x2), some (.int x3), some (.int x4), some (.int x5), some (.int (x6 + (1 : Int32))), none, none]) ⟨rfl, rfl, rfl, rfl, rfl, rfl, rfl, trivial⟩ ?_
          exact hR x1 x2 x3 x4 x5 (x6 + (1 : Int32)) I13
        · refine J_weak (ls' := [none, none, none, none, none, none, some (.int x6), none, none]) ⟨rfl, trivial⟩ ?_
          exact hK147 x6 I13
      · refine J_aload_n (pc := 104) (x := 89) dX9_find_104 rfl ?_
        refine J_get (pc := 105) (t := 9) (k := 13) (.ref 97) (ok_m hn 89 (by decide) rfl) (by decide) rfl ingX9 (by decide) wd_533 rfl dX9_find_105 ?_
        refine J_iload (pc := 108) (x := (x2 - (1 : Int32))) dX9_find_108 rfl ?_
        refine J_ck (fun hc14 => ?_)
        refine J_ild (pc := 110) (t := 37) (k := (tn (x2 - (1 : Int32)))) (ok_m hn 97 (by decide) rfl) iT_37 (inb_in hc14) rfl dX9_find_110 ?_
        refine J_iload (pc := 111) (x := x5) dX9_find_111 rfl ?_
        refine J_aload_n (pc := 113) (x := 89) dX9_find_113 rfl ?_
        refine J_get (pc := 114) (t := 9) (k := 16) (.int (I13 89 16)) (ok_m hn 89 (by decide) rfl) (by decide) rfl ingX9 (by decide) wd_526 rfl dX9_find_114 ?_
        refine J_imul (pc := 117) dX9_find_117 ?_
        refine J_iload (pc := 118) (x := x4) dX9_find_118 rfl ?_
        refine J_iadd (pc := 120) dX9_find_120 ?_
        refine J_icmp_ne (pc := 121) (tgt := 139) dX9_find_121 (by decide) ?_ ?_
        · refine J_aload_n (pc := 124) (x := 89) dX9_find_124 rfl ?_
          refine J_get (pc := 125) (t := 9) (k := 14) (.ref 98) (ok_m hn 89 (by decide) rfl) (by decide) rfl ingX9 (by decide) wd_534 rfl dX9_find_125 ?_
          refine J_iload (pc := 128) (x := (x2 - (1 : Int32))) dX9_find_128 rfl ?_
          refine J_ck (fun hc15 => ?_)
          refine J_ild (pc := 130) (t := 38) (k := (tn (x2 - (1 : Int32)))) (ok_m hn 98 (by decide) rfl) iT_38 (inb_in hc15) rfl dX9_find_130 ?_
          refine J_iload_n (pc := 131) (x := x3) dX9_find_131 rfl ?_
          refine J_icmp_ne (pc := 132) (tgt := 139) dX9_find_132 (by decide) ?_ ?_
          · refine J_iconst (pc := 135) (v := (1 : Int32)) dX9_find_135 (by decide) ?_
            refine J_goto (pc := 136) (tgt := 140) dX9_find_136 (by decide) ?_
            refine J_istore (pc := 140) (ls' := [some (.ref 89), some (.int x1), some (.int x2), some (.int x3), some (.int x4), some (.int x5), some (.int x6), some (.int (x2 - (1 : Int32))), some (.int (1 : Int32))]) dX9_find_140 (Nat.le_of_ble_eq_true rfl) rfl rfl ?_
            refine J_iload (pc := 142) (x := (1 : Int32)) dX9_find_142 rfl ?_
            refine J_if_eq (pc := 144) (tgt := 150) dX9_find_144 (by decide) ?_ ?_
            · refine J_iinc (pc := 150) (d := (1 : Int32)) (ls' := [some (.ref 89), some (.int x1), some (.int x2), some (.int x3), some (.int x4), some (.int x5), some (.int (x6 + (1 : Int32))), some (.int (x2 - (1 : Int32))), some (.int (1 : Int32))]) dX9_find_150 (by decide) rfl (Nat.le_of_ble_eq_true rfl) rfl rfl ?_
              refine J_goto (pc := 153) (tgt := 66) dX9_find_153 (by decide) ?_
              refine J_weak (ls' := [some (.ref 89), some (.int x1), some (.int x2), some (.int x3), some (.int x4), some (.int x5), some (.int (x6 + (1 : Int32))), none, none]) ⟨rfl, rfl, rfl, rfl, rfl, rfl, rfl, trivial⟩ ?_
              exact hR x1 x2 x3 x4 x5 (x6 + (1 : Int32)) I13
            · refine J_weak (ls' := [none, none, none, none, none, none, some (.int x6), none, none]) ⟨rfl, trivial⟩ ?_
              exact hK147 x6 I13
          · refine J_iconst (pc := 139) (v := (0 : Int32)) dX9_find_139 (by decide) ?_
            refine J_istore (pc := 140) (ls' := [some (.ref 89), some (.int x1), some (.int x2), some (.int x3), some (.int x4), some (.int x5), some (.int x6), some (.int (x2 - (1 : Int32))), some (.int (0 : Int32))]) dX9_find_140 (Nat.le_of_ble_eq_true rfl) rfl rfl ?_
            refine J_iload (pc := 142) (x := (0 : Int32)) dX9_find_142 rfl ?_
            refine J_if_eq (pc := 144) (tgt := 150) dX9_find_144 (by decide) ?_ ?_
            · refine J_iinc (pc := 150) (d := (1 : Int32)) (ls' := [some (.ref 89), some (.int x1), some (.int x2), some (.int x3), some (.int x4), some (.int x5), some (.int (x6 + (1 : Int32))), some (.int (x2 - (1 : Int32))), some (.int (0 : Int32))]) dX9_find_150 (by decide) rfl (Nat.le_of_ble_eq_true rfl) rfl rfl ?_
              refine J_goto (pc := 153) (tgt := 66) dX9_find_153 (by decide) ?_
              refine J_weak (ls' := [some (.ref 89), some (.int x1), some (.int x2), some (.int x3), some (.int x4), some (.int x5), some (.int (x6 + (1 : Int32))), none, none]) ⟨rfl, rfl, rfl, rfl, rfl, rfl, rfl, trivial⟩ ?_
              exact hR x1 x2 x3 x4 x5 (x6 + (1 : Int32)) I13
            · refine J_weak (ls' := [none, none, none, none, none, none, some (.int x6), none, none]) ⟨rfl, trivial⟩ ?_
              exact hK147 x6 I13
        · refine J_iconst (pc := 139) (v := (0 : Int32)) dX9_find_139 (by decide) ?_
          refine J_istore (pc := 140) (ls' := [some (.ref 89), some (.int x1), some (.int x2), some (.int x3), some (.int x4), some (.int x5), some (.int x6), some (.int (x2 - (1 : Int32))), some (.int (0 : Int32))]) dX9_find_140 (Nat.le_of_ble_eq_true rfl) rfl rfl ?_
          refine J_iload (pc := 142) (x := (0 : Int32)) dX9_find_142 rfl ?_
          refine J_if_eq (pc := 144) (tgt := 150) dX9_find_144 (by decide) ?_ ?_
          · refine J_iinc (pc := 150) (d := (1 : Int32)) (ls' := [some (.ref 89), some (.int x1), some (.int x2), some (.int x3), some (.int x4), some (.int x5), some (.int (x6 + (1 : Int32))), some (.int (x2 - (1 : Int32))), some (.int (0 : Int32))]) dX9_find_150 (by decide) rfl (Nat.le_of_ble_eq_true rfl) rfl rfl ?_
            refine J_goto (pc := 153) (tgt := 66) dX9_find_153 (by decide) ?_
            refine J_weak (ls' := [some (.ref 89), some (.int x1), some (.int x2), some (.int x3), some (.int x4), some (.int x5), some (.int (x6 + (1 : Int32))), none, none]) ⟨rfl, rfl, rfl, rfl, rfl, rfl, rfl, trivial⟩ ?_
            exact hR x1 x2 x3 x4 x5 (x6 + (1 : Int32)) I13
          · refine J_weak (ls' := [none, none, none, none, none, none, some (.int x6), none, none]) ⟨rfl, trivial⟩ ?_
            exact hK147 x6 I13
theorem tl_X9_find_66 {G : Gt} (hG : Gok G) (hn : gn G = 104) {K147 : Int32 → Mem → Option (Int32 × Mem)} (hK147 : ∀ (x6 : Int32) (I : Mem), J G (mu_X9_find G) 147 [none, none, none, none, none, none, some (.int x6), none, none] [] I (K147 x6 I)) {K156 : Mem → Option (Int32 × Mem)} (hK156 : ∀ (I : Mem), J G (mu_X9_find G) 156 [none, none, none, none, none, none, none, none, none] [] I (K156 I)) (n : Nat) : ∀ (x1 : Int32) (x2 : Int32) (x3 : Int32) (x4 : Int32) (x5 : Int32) (x6 : Int32) (I : Mem), J G (mu_X9_find G) 66 [some (.ref 89), some (.int x1), some (.int x2), some (.int x3), some (.int x4), some (.int x5), some (.int x6), none, none] [] I (l_X9_find_66 K147 K156 n x1 x2 x3 x4 x5 x6 I) := by
  induction n with
  | zero => intro x1 x2 x3 x4 x5 x6 I; exact J_none
  | succ n ih => intro x1 x2 x3 x4 x5 x6 I; exact tb_X9_find_66 hG hn hK147 hK156 ih x1 x2 x3 x4 x5 x6 I
set_option maxRecDepth 100000 in
theorem c_X9_find {G : Gt} (hG : Gok G) (hn : gn G = 104) (x1 : Int32) (x2 : Int32) (x3 : Int32) (x4 : Int32) (x5 : Int32) (I : Mem) : Cti G yX9_find cX9_find 9 (some .int) 3 80 [.ref 89, .int x1, .int x2, .int x3, .int x4, .int x5] I (f_X9_find x1 x2 x3 x4 x5 I) := by
  refine Cti.of (ls := [some (.ref 89), some (.int x1), some (.int x2), some (.int x3), some (.int x4), some (.int x5), none, none, none]) 3 hG (by decide) rfl (Nat.le_of_ble_eq_true rfl) ?_
  unfold f_X9_find
  refine J_iload_n (pc := 0) (x := x1) dX9_find_0 rfl ?_
  refine J_i2l (pc := 1) dX9_find_1 ?_
  refine J_lconst (pc := 2) (v := (1 : Int64)) dX9_find_2 (by decide) ?_
  refine J_ldc2 (pc := 3) (v := (4 : Int64)) wd_432 dX9_find_3 ?_
  refine J_callSi (pc := 6) (as := [.long ((x1).toInt64), .long (1 : Int64), .long (4 : Int64)]) (st := []) (c_X9_in hG hn ((x1).toInt64) (1 : Int64) (4 : Int64) I) (cw_RX9_57 rfl) wd_425 rfl ⟨Nat.le_of_ble_eq_true rfl, Nat.le_of_ble_eq_true rfl, Nat.le_of_ble_eq_true rfl, Nat.le_of_ble_eq_true rfl⟩ (Nat.le_of_ble_eq_true rfl) rfl dX9_find_6 (fun r2 I1 => ?_)
  refine J_if_eq (pc := 9) (tgt := 61) dX9_find_9 (by decide) ?_ ?_
  · refine J_iconst (pc := 61) (v := (-1 : Int32)) dX9_find_61 (by decide) ?_
    exact J_iret (pc := 62) dX9_find_62
  · refine J_iload_n (pc := 12) (x := x2) dX9_find_12 rfl ?_
    refine J_i2l (pc := 13) dX9_find_13 ?_
    refine J_lconst (pc := 14) (v := (1 : Int64)) dX9_find_14 (by decide) ?_
    refine J_iconst (pc := 15) (v := (2 : Int32)) dX9_find_15 (by decide) ?_
    refine J_iload_n (pc := 16) (x := x1) dX9_find_16 rfl ?_
    refine J_ishl (pc := 17) dX9_find_17 ?_
    refine J_i2l (pc := 18) dX9_find_18 ?_
    refine J_callSi (pc := 19) (as := [.long ((x2).toInt64), .long (1 : Int64), .long ((((2 : Int32) <<< (x1 &&& 31))).toInt64)]) (st := []) (c_X9_in hG hn ((x2).toInt64) (1 : Int64) ((((2 : Int32) <<< (x1 &&& 31))).toInt64) I1) (cw_RX9_57 rfl) wd_425 rfl ⟨Nat.le_of_ble_eq_true rfl, Nat.le_of_ble_eq_true rfl, Nat.le_of_ble_eq_true rfl, Nat.le_of_ble_eq_true rfl⟩ (Nat.le_of_ble_eq_true rfl) rfl dX9_find_19 (fun r4 I3 => ?_)
    refine J_if_eq (pc := 22) (tgt := 61) dX9_find_22 (by decide) ?_ ?_
    · refine J_iconst (pc := 61) (v := (-1 : Int32)) dX9_find_61 (by decide) ?_
      exact J_iret (pc := 62) dX9_find_62
    · refine J_iload_n (pc := 25) (x := x3) dX9_find_25 rfl ?_
      refine J_i2l (pc := 26) dX9_find_26 ?_
      refine J_lconst (pc := 27) (v := (0 : Int64)) dX9_find_27 (by decide) ?_
      refine J_lconst (pc := 28) (v := (1 : Int64)) dX9_find_28 (by decide) ?_
      refine J_callSi (pc := 29) (as := [.long ((x3).toInt64), .long (0 : Int64), .long (1 : Int64)]) (st := []) (c_X9_in hG hn ((x3).toInt64) (0 : Int64) (1 : Int64) I3) (cw_RX9_57 rfl) wd_425 rfl ⟨Nat.le_of_ble_eq_true rfl, Nat.le_of_ble_eq_true rfl, Nat.le_of_ble_eq_true rfl, Nat.le_of_ble_eq_true rfl⟩ (Nat.le_of_ble_eq_true rfl) rfl dX9_find_29 (fun r6 I5 => ?_)
      refine J_if_eq (pc := 32) (tgt := 61) dX9_find_32 (by decide) ?_ ?_
      · refine J_iconst (pc := 61) (v := (-1 : Int32)) dX9_find_61 (by decide) ?_
        exact J_iret (pc := 62) dX9_find_62
      · refine J_iload (pc := 35) (x := x4) dX9_find_35 rfl ?_
        refine J_i2l (pc := 37) dX9_find_37 ?_
        refine J_lconst (pc := 38) (v := (0 : Int64)) dX9_find_38 (by decide) ?_
        refine J_ldc2 (pc := 39) (v := (15 : Int64)) wd_548 dX9_find_39 ?_
        refine J_callSi (pc := 42) (as := [.long ((x4).toInt64), .long (0 : Int64), .long (15 : Int64)]) (st := []) (c_X9_in hG hn ((x4).toInt64) (0 : Int64) (15 : Int64) I5) (cw_RX9_57 rfl) wd_425 rfl ⟨Nat.le_of_ble_eq_true rfl, Nat.le_of_ble_eq_true rfl, Nat.le_of_ble_eq_true rfl, Nat.le_of_ble_eq_true rfl⟩ (Nat.le_of_ble_eq_true rfl) rfl dX9_find_42 (fun r8 I7 => ?_)
        refine J_if_eq (pc := 45) (tgt := 61) dX9_find_45 (by decide) ?_ ?_
        · refine J_iconst (pc := 61) (v := (-1 : Int32)) dX9_find_61 (by decide) ?_
          exact J_iret (pc := 62) dX9_find_62
        · refine J_iload (pc := 48) (x := x5) dX9_find_48 rfl ?_
          refine J_i2l (pc := 50) dX9_find_50 ?_
          refine J_lconst (pc := 51) (v := (0 : Int64)) dX9_find_51 (by decide) ?_
          refine J_ldc2 (pc := 52) (v := (15 : Int64)) wd_548 dX9_find_52 ?_
          refine J_callSi (pc := 55) (as := [.long ((x5).toInt64), .long (0 : Int64), .long (15 : Int64)]) (st := []) (c_X9_in hG hn ((x5).toInt64) (0 : Int64) (15 : Int64) I7) (cw_RX9_57 rfl) wd_425 rfl ⟨Nat.le_of_ble_eq_true rfl, Nat.le_of_ble_eq_true rfl, Nat.le_of_ble_eq_true rfl, Nat.le_of_ble_eq_true rfl⟩ (Nat.le_of_ble_eq_true rfl) rfl dX9_find_55 (fun r10 I9 => ?_)
          refine J_if_ne (pc := 58) (tgt := 63) dX9_find_58 (by decide) ?_ ?_
          · refine J_iconst (pc := 61) (v := (-1 : Int32)) dX9_find_61 (by decide) ?_
            exact J_iret (pc := 62) dX9_find_62
          · refine J_iconst (pc := 63) (v := (0 : Int32)) dX9_find_63 (by decide) ?_
            refine J_istore (pc := 64) (ls' := [some (.ref 89), some (.int x1), some (.int x2), some (.int x3), some (.int x4), some (.int x5), some (.int (0 : Int32)), none, none]) dX9_find_64 (Nat.le_of_ble_eq_true rfl) rfl rfl ?_
            refine tl_X9_find_66 hG hn (fun z16 I17 => ?_) (fun I18 => ?_) fuel x1 x2 x3 x4 x5 (0 : Int32) I9
            · refine J_iload (pc := 147) (x := z16) dX9_find_147 rfl ?_
              exact J_iret (pc := 149) dX9_find_149
            · refine J_bipush (pc := 156) (v := (-4 : Int32)) dX9_find_156 (by decide) ?_
              exact J_iret (pc := 158) dX9_find_158
abbrev mu_X9_knows (G : Gt) : Mt Mem := mv G cX9_knows 3 yX9_knows.cls 0 0
def b_X9_knows_13 (K58 : Mem → Option Mem) (R : Int32 → Int32 → Mem → Option Mem) (x1 : Int32) (x2 : Int32) (I : Mem) : Option Mem :=
  (if ((2 : Int32) <<< (x1 &&& 31)) ≤ x2 then K58 I else ck (inb x2 32) <| ck (inb x2 32) <| ck (inb x2 32) <| ck (inb x2 33) <| R x1 (x2 + (1 : Int32)) (stm I 100 (tn x2) ((((64 : Int32) * (I 99 (tn x2))) + ((32 : Int32) * (I 98 (tn x2)))) + (I 97 (tn x2)))))
def l_X9_knows_13 (K58 : Mem → Option Mem) : Nat → Int32 → Int32 → Mem → Option Mem := fx (b_X9_knows_13 K58) (fun _ _ _ => none)
def f_X9_knows (x1 : Int32) (I : Mem) : Option Mem :=
  l_X9_knows_13 (fun I5 => some I5) fuel x1 (0 : Int32) (stm I 100 32 (I 89 16))
set_option maxRecDepth 100000 in
theorem tb_X9_knows_13 {G : Gt} (hG : Gok G) (hn : gn G = 104) {K58 : Mem → Option Mem} (hK58 : ∀ (I : Mem), J G (mu_X9_knows G) 58 [none, none, none] [] I (K58 I)) {R : Int32 → Int32 → Mem → Option Mem} (hR : ∀ (x1 : Int32) (x2 : Int32) (I : Mem), J G (mu_X9_knows G) 13 [some (.ref 89), some (.int x1), some (.int x2)] [] I (R x1 x2 I)) (x1 : Int32) (x2 : Int32) (I : Mem) : J G (mu_X9_knows G) 13 [some (.ref 89), some (.int x1), some (.int x2)] [] I (b_X9_knows_13 K58 R x1 x2 I) := by
  unfold b_X9_knows_13
  refine J_iload_n (pc := 13) (x := x2) dX9_knows_13 rfl ?_
  refine J_iconst (pc := 14) (v := (2 : Int32)) dX9_knows_14 (by decide) ?_
  refine J_iload_n (pc := 15) (x := x1) dX9_knows_15 rfl ?_
  refine J_ishl (pc := 16) dX9_knows_16 ?_
  refine J_icmp_ge (pc := 17) (tgt := 58) dX9_knows_17 (by decide) ?_ ?_
  · refine J_weak (ls' := [none, none, none]) trivial ?_
    exact hK58 I
  · refine J_aload_n (pc := 20) (x := 89) dX9_knows_20 rfl ?_
    refine J_get (pc := 21) (t := 9) (k := 17) (.ref 100) (ok_m hn 89 (by decide) rfl) (by decide) rfl ingX9 (by decide) wd_556 rfl dX9_knows_21 ?_
    refine J_iload_n (pc := 24) (x := x2) dX9_knows_24 rfl ?_
    refine J_bipush (pc := 25) (v := (64 : Int32)) dX9_knows_25 (by decide) ?_
    refine J_aload_n (pc := 27) (x := 89) dX9_knows_27 rfl ?_
    refine J_get (pc := 28) (t := 9) (k := 15) (.ref 99) (ok_m hn 89 (by decide) rfl) (by decide) rfl ingX9 (by decide) wd_535 rfl dX9_knows_28 ?_
    refine J_iload_n (pc := 31) (x := x2) dX9_knows_31 rfl ?_
    refine J_ck (fun hc1 => ?_)
    refine J_ild (pc := 32) (t := 39) (k := (tn x2)) (ok_m hn 99 (by decide) rfl) iT_39 (inb_in hc1) rfl dX9_knows_32 ?_
    refine J_imul (pc := 33) dX9_knows_33 ?_
    refine J_bipush (pc := 34) (v := (32 : Int32)) dX9_knows_34 (by decide) ?_
    refine J_aload_n (pc := 36) (x := 89) dX9_knows_36 rfl ?_
    refine J_get (pc := 37) (t := 9) (k := 14) (.ref 98) (ok_m hn 89 (by decide) rfl) (by decide) rfl ingX9 (by decide) wd_534 rfl dX9_knows_37 ?_
    refine J_iload_n (pc := 40) (x := x2) dX9_knows_40 rfl ?_
    refine J_ck (fun hc2 => ?_)
    refine J_ild (pc := 41) (t := 38) (k := (tn x2)) (ok_m hn 98 (by decide) rfl) iT_38 (inb_in hc2) rfl dX9_knows_41 ?_
    refine J_imul (pc := 42) dX9_knows_42 ?_
    refine J_iadd (pc := 43) dX9_knows_43 ?_
    refine J_aload_n (pc := 44) (x := 89) dX9_knows_44 rfl ?_
    refine J_get (pc := 45) (t := 9) (k := 13) (.ref 97) (ok_m hn 89 (by decide) rfl) (by decide) rfl ingX9 (by decide) wd_533 rfl dX9_knows_45 ?_
    refine J_iload_n (pc := 48) (x := x2) dX9_knows_48 rfl ?_
    refine J_ck (fun hc3 => ?_)
    refine J_ild (pc := 49) (t := 37) (k := (tn x2)) (ok_m hn 97 (by decide) rfl) iT_37 (inb_in hc3) rfl dX9_knows_49 ?_
    refine J_iadd (pc := 50) dX9_knows_50 ?_
    refine J_ck (fun hc4 => ?_)
    refine J_ist (pc := 51) (t := 40) (k := (tn x2)) (ok_m hn 100 (by decide) rfl) iT_40 (inb_in hc4) rfl dX9_knows_51 ?_
    refine J_iinc (pc := 52) (d := (1 : Int32)) (ls' := [some (.ref 89), some (.int x1), some (.int (x2 + (1 : Int32)))]) dX9_knows_52 (by decide) rfl (Nat.le_of_ble_eq_true rfl) rfl rfl ?_
    refine J_goto (pc := 55) (tgt := 13) dX9_knows_55 (by decide) ?_
    exact hR x1 (x2 + (1 : Int32)) (stm I 100 (tn x2) ((((64 : Int32) * (I 99 (tn x2))) + ((32 : Int32) * (I 98 (tn x2)))) + (I 97 (tn x2))))
theorem tl_X9_knows_13 {G : Gt} (hG : Gok G) (hn : gn G = 104) {K58 : Mem → Option Mem} (hK58 : ∀ (I : Mem), J G (mu_X9_knows G) 58 [none, none, none] [] I (K58 I)) (n : Nat) : ∀ (x1 : Int32) (x2 : Int32) (I : Mem), J G (mu_X9_knows G) 13 [some (.ref 89), some (.int x1), some (.int x2)] [] I (l_X9_knows_13 K58 n x1 x2 I) := by
  induction n with
  | zero => intro x1 x2 I; exact J_none
  | succ n ih => intro x1 x2 I; exact tb_X9_knows_13 hG hn hK58 ih x1 x2 I
set_option maxRecDepth 100000 in
theorem c_X9_knows {G : Gt} (hG : Gok G) (hn : gn G = 104) (x1 : Int32) (I : Mem) : Ctv G yX9_knows cX9_knows 3 0 0 [.ref 89, .int x1] I (f_X9_knows x1 I) := by
  refine Ctv.of (ls := [some (.ref 89), some (.int x1), none]) 1 hG (by decide) rfl (Nat.le_of_ble_eq_true rfl) ?_
  unfold f_X9_knows
  refine J_aload_n (pc := 0) (x := 89) dX9_knows_0 rfl ?_
  refine J_get (pc := 1) (t := 9) (k := 17) (.ref 100) (ok_m hn 89 (by decide) rfl) (by decide) rfl ingX9 (by decide) wd_556 rfl dX9_knows_1 ?_
  refine J_bipush (pc := 4) (v := (32 : Int32)) dX9_knows_4 (by decide) ?_
  refine J_aload_n (pc := 6) (x := 89) dX9_knows_6 rfl ?_
  refine J_get (pc := 7) (t := 9) (k := 16) (.int (I 89 16)) (ok_m hn 89 (by decide) rfl) (by decide) rfl ingX9 (by decide) wd_526 rfl dX9_knows_7 ?_
  refine J_ist (pc := 10) (t := 40) (k := 32) (ok_m hn 100 (by decide) rfl) iT_40 (inb_in (by decide)) (by decide) dX9_knows_10 ?_
  refine J_iconst (pc := 11) (v := (0 : Int32)) dX9_knows_11 (by decide) ?_
  refine J_istore_n (pc := 12) (ls' := [some (.ref 89), some (.int x1), some (.int (0 : Int32))]) dX9_knows_12 (Nat.le_of_ble_eq_true rfl) rfl rfl ?_
  refine tl_X9_knows_13 hG hn (fun I5 => ?_) fuel x1 (0 : Int32) (stm I 100 32 (I 89 16))
  · exact J_vret (pc := 58) dX9_knows_58
abbrev mu_X9_isKnown (G : Gt) : Mt (Int32 × Mem) := mi G cX9_isKnown 4 yX9_isKnown.cls (some .boolean) 0 0
def b_X9_isKnown_22 (K80 : Int32 → Mem → Option (Int32 × Mem)) (R : Int32 → Int32 → Int32 → Mem → Option (Int32 × Mem)) (x1 : Int32) (x2 : Int32) (x3 : Int32) (I : Mem) : Option (Int32 × Mem) :=
  (if ((2 : Int32) <<< (x1 &&& 31)) ≤ x3 then K80 x2 I else (if x2 = 0 then R x1 (0 : Int32) (x3 + (1 : Int32)) I else ck (inb x3 33) <| ck (inb x3 32) <| ck (inb x3 32) <| ck (inb x3 32) <| (if (I 100 (tn x3)) = ((((64 : Int32) * (I 99 (tn x3))) + ((32 : Int32) * (I 98 (tn x3)))) + (I 97 (tn x3))) then R x1 (1 : Int32) (x3 + (1 : Int32)) I else R x1 (0 : Int32) (x3 + (1 : Int32)) I)))
def l_X9_isKnown_22 (K80 : Int32 → Mem → Option (Int32 × Mem)) : Nat → Int32 → Int32 → Int32 → Mem → Option (Int32 × Mem) := fx (b_X9_isKnown_22 K80) (fun _ _ _ _ => none)
def f_X9_isKnown (x1 : Int32) (I : Mem) : Option (Int32 × Mem) :=
  (if (I 100 32) = (I 89 16) then l_X9_isKnown_22 (fun (z5 : Int32) I6 => ck (z5 == 0 || z5 == 1) <| some (z5, I6)) fuel x1 (1 : Int32) (0 : Int32) I else l_X9_isKnown_22 (fun (z8 : Int32) I9 => ck (z8 == 0 || z8 == 1) <| some (z8, I9)) fuel x1 (0 : Int32) (0 : Int32) I)
set_option maxRecDepth 100000 in
theorem tb_X9_isKnown_22 {G : Gt} (hG : Gok G) (hn : gn G = 104) {K80 : Int32 → Mem → Option (Int32 × Mem)} (hK80 : ∀ (x2 : Int32) (I : Mem), J G (mu_X9_isKnown G) 80 [none, none, some (.int x2), none] [] I (K80 x2 I)) {R : Int32 → Int32 → Int32 → Mem → Option (Int32 × Mem)} (hR : ∀ (x1 : Int32) (x2 : Int32) (x3 : Int32) (I : Mem), J G (mu_X9_isKnown G) 22 [some (.ref 89), some (.int x1), some (.int x2), some (.int x3)] [] I (R x1 x2 x3 I)) (x1 : Int32) (x2 : Int32) (x3 : Int32) (I : Mem) : J G (mu_X9_isKnown G) 22 [some (.ref 89), some (.int x1), some (.int x2), some (.int x3)] [] I (b_X9_isKnown_22 K80 R x1 x2 x3 I) := by
  unfold b_X9_isKnown_22
  refine J_iload_n (pc := 22) (x := x3) dX9_isKnown_22 rfl ?_
  refine J_iconst (pc := 23) (v := (2 : Int32)) dX9_isKnown_23 (by decide) ?_
  refine J_iload_n (pc := 24) (x := x1) dX9_isKnown_24 rfl ?_
  refine J_ishl (pc := 25) dX9_isKnown_25 ?_
  refine J_icmp_ge (pc := 26) (tgt := 80) dX9_isKnown_26 (by decide) ?_ ?_
  · refine J_weak (ls' := [none, none, some (.int x2), none]) ⟨rfl, trivial⟩ ?_
    exact hK80 x2 I
  · refine J_iload_n (pc := 29) (x := x2) dX9_isKnown_29 rfl ?_
    refine J_if_eq (pc := 30) (tgt := 72) dX9_isKnown_30 (by decide) ?_ ?_
    · refine J_iconst (pc := 72) (v := (0 : Int32)) dX9_isKnown_72 (by decide) ?_
      refine J_istore_n (pc := 73) (ls' := [some (.ref 89), some (.int x1), some (.int (0 : Int32)), some (.int x3)]) dX9_isKnown_73 (Nat.le_of_ble_eq_true rfl) rfl rfl ?_
      refine J_iinc (pc := 74) (d := (1 : Int32)) (ls' := [some (.ref 89), some (.int x1), some (.int (0 : Int32)), some (.int (x3 + (1 : Int32)))]) dX9_isKnown_74 (by decide) rfl (Nat.le_of_ble_eq_true rfl) rfl rfl ?_
      refine J_goto (pc := 77) (tgt := 22) dX9_isKnown_77 (by decide) ?_
      exact hR x1 (0 : Int32) (x3 + (1 : Int32)) I
    · refine J_aload_n (pc := 33) (x := 89) dX9_isKnown_33 rfl ?_
      refine J_get (pc := 34) (t := 9) (k := 17) (.ref 100) (ok_m hn 89 (by decide) rfl) (by decide) rfl ingX9 (by decide) wd_556 rfl dX9_isKnown_34 ?_
      refine J_iload_n (pc := 37) (x := x3) dX9_isKnown_37 rfl ?_
      refine J_ck (fun hc1 => ?_)
      refine J_ild (pc := 38) (t := 40) (k := (tn x3)) (ok_m hn 100 (by decide) rfl) iT_40 (inb_in hc1) rfl dX9_isKnown_38 ?_
      refine J_bipush (pc := 39) (v := (64 : Int32)) dX9_isKnown_39 (by decide) ?_
      refine J_aload_n (pc := 41) (x := 89) dX9_isKnown_41 rfl ?_
      refine J_get (pc := 42) (t := 9) (k := 15) (.ref 99) (ok_m hn 89 (by decide) rfl) (by decide) rfl ingX9 (by decide) wd_535 rfl dX9_isKnown_42 ?_
      refine J_iload_n (pc := 45) (x := x3) dX9_isKnown_45 rfl ?_
      refine J_ck (fun hc2 => ?_)
      refine J_ild (pc := 46) (t := 39) (k := (tn x3)) (ok_m hn 99 (by decide) rfl) iT_39 (inb_in hc2) rfl dX9_isKnown_46 ?_
      refine J_imul (pc := 47) dX9_isKnown_47 ?_
      refine J_bipush (pc := 48) (v := (32 : Int32)) dX9_isKnown_48 (by decide) ?_
      refine J_aload_n (pc := 50) (x := 89) dX9_isKnown_50 rfl ?_
      refine J_get (pc := 51) (t := 9) (k := 14) (.ref 98) (ok_m hn 89 (by decide) rfl) (by decide) rfl ingX9 (by decide) wd_534 rfl dX9_isKnown_51 ?_
      refine J_iload_n (pc := 54) (x := x3) dX9_isKnown_54 rfl ?_
      refine J_ck (fun hc3 => ?_)
      refine J_ild (pc := 55) (t := 38) (k := (tn x3)) (ok_m hn 98 (by decide) rfl) iT_38 (inb_in hc3) rfl dX9_isKnown_55 ?_
      refine J_imul (pc := 56) dX9_isKnown_56 ?_
      refine J_iadd (pc := 57) dX9_isKnown_57 ?_
      refine J_aload_n (pc := 58) (x := 89) dX9_isKnown_58 rfl ?_
      refine J_get (pc := 59) (t := 9) (k := 13) (.ref 97) (ok_m hn 89 (by decide) rfl) (by decide) rfl ingX9 (by decide) wd_533 rfl dX9_isKnown_59 ?_
      refine J_iload_n (pc := 62) (x := x3) dX9_isKnown_62 rfl ?_
      refine J_ck (fun hc4 => ?_)
      refine J_ild (pc := 63) (t := 37) (k := (tn x3)) (ok_m hn 97 (by decide) rfl) iT_37 (inb_in hc4) rfl dX9_isKnown_63 ?_
      refine J_iadd (pc := 64) dX9_isKnown_64 ?_
      refine J_icmp_ne (pc := 65) (tgt := 72) dX9_isKnown_65 (by decide) ?_ ?_
      · refine J_iconst (pc := 68) (v := (1 : Int32)) dX9_isKnown_68 (by decide) ?_
        refine J_goto (pc := 69) (tgt := 73) dX9_isKnown_69 (by decide) ?_
        refine J_istore_n (pc := 73) (ls' := [some (.ref 89), some (.int x1), some (.int (1 : Int32)), some (.int x3)]) dX9_isKnown_73 (Nat.le_of_ble_eq_true rfl) rfl rfl ?_
        refine J_iinc (pc := 74) (d := (1 : Int32)) (ls' := [some (.ref 89), some (.int x1), some (.int (1 : Int32)), some (.int (x3 + (1 : Int32)))]) dX9_isKnown_74 (by decide) rfl (Nat.le_of_ble_eq_true rfl) rfl rfl ?_
        refine J_goto (pc := 77) (tgt := 22) dX9_isKnown_77 (by decide) ?_
        exact hR x1 (1 : Int32) (x3 + (1 : Int32)) I
      · refine J_iconst (pc := 72) (v := (0 : Int32)) dX9_isKnown_72 (by decide) ?_
        refine J_istore_n (pc := 73) (ls' := [some (.ref 89), some (.int x1), some (.int (0 : Int32)), some (.int x3)]) dX9_isKnown_73 (Nat.le_of_ble_eq_true rfl) rfl rfl ?_
        refine J_iinc (pc := 74) (d := (1 : Int32)) (ls' := [some (.ref 89), some (.int x1), some (.int (0 : Int32)), some (.int (x3 + (1 : Int32)))]) dX9_isKnown_74 (by decide) rfl (Nat.le_of_ble_eq_true rfl) rfl rfl ?_
        refine J_goto (pc := 77) (tgt := 22) dX9_isKnown_77 (by decide) ?_
        exact hR x1 (0 : Int32) (x3 + (1 : Int32)) I
theorem tl_X9_isKnown_22 {G : Gt} (hG : Gok G) (hn : gn G = 104) {K80 : Int32 → Mem → Option (Int32 × Mem)} (hK80 : ∀ (x2 : Int32) (I : Mem), J G (mu_X9_isKnown G) 80 [none, none, some (.int x2), none] [] I (K80 x2 I)) (n : Nat) : ∀ (x1 : Int32) (x2 : Int32) (x3 : Int32) (I : Mem), J G (mu_X9_isKnown G) 22 [some (.ref 89), some (.int x1), some (.int x2), some (.int x3)] [] I (l_X9_isKnown_22 K80 n x1 x2 x3 I) := by
  induction n with
  | zero => intro x1 x2 x3 I; exact J_none
  | succ n ih => intro x1 x2 x3 I; exact tb_X9_isKnown_22 hG hn hK80 ih x1 x2 x3 I
set_option maxRecDepth 100000 in
theorem c_X9_isKnown {G : Gt} (hG : Gok G) (hn : gn G = 104) (x1 : Int32) (I : Mem) : Cti G yX9_isKnown cX9_isKnown 4 (some .boolean) 0 0 [.ref 89, .int x1] I (f_X9_isKnown x1 I) := by
  refine Cti.of (ls := [some (.ref 89), some (.int x1), none, none]) 2 hG (by decide) rfl (Nat.le_of_ble_eq_true rfl) ?_
  unfold f_X9_isKnown
  refine J_aload_n (pc := 0) (x := 89) dX9_isKnown_0 rfl ?_
  refine J_get (pc := 1) (t := 9) (k := 17) (.ref 100) (ok_m hn 89 (by decide) rfl) (by decide) rfl ingX9 (by decide) wd_556 rfl dX9_isKnown_1 ?_
  refine J_bipush (pc := 4) (v := (32 : Int32)) dX9_isKnown_4 (by decide) ?_
  refine J_ild (pc := 6) (t := 40) (k := 32) (ok_m hn 100 (by decide) rfl) iT_40 (inb_in (by decide)) (by decide) dX9_isKnown_6 ?_
  refine J_aload_n (pc := 7) (x := 89) dX9_isKnown_7 rfl ?_
  refine J_get (pc := 8) (t := 9) (k := 16) (.int (I 89 16)) (ok_m hn 89 (by decide) rfl) (by decide) rfl ingX9 (by decide) wd_526 rfl dX9_isKnown_8 ?_
  refine J_icmp_ne (pc := 11) (tgt := 18) dX9_isKnown_11 (by decide) ?_ ?_
  · refine J_iconst (pc := 14) (v := (1 : Int32)) dX9_isKnown_14 (by decide) ?_
    refine J_goto (pc := 15) (tgt := 19) dX9_isKnown_15 (by decide) ?_
    refine J_istore_n (pc := 19) (ls' := [some (.ref 89), some (.int x1), some (.int (1 : Int32)), none]) dX9_isKnown_19 (Nat.le_of_ble_eq_true rfl) rfl rfl ?_
    refine J_iconst (pc := 20) (v := (0 : Int32)) dX9_isKnown_20 (by decide) ?_
    refine J_istore_n (pc := 21) (ls' := [some (.ref 89), some (.int x1), some (.int (1 : Int32)), some (.int (0 : Int32))]) dX9_isKnown_21 (Nat.le_of_ble_eq_true rfl) rfl rfl ?_
    refine tl_X9_isKnown_22 hG hn (fun z5 I6 => ?_) fuel x1 (1 : Int32) (0 : Int32) I
    · refine J_iload_n (pc := 80) (x := z5) dX9_isKnown_80 rfl ?_
      refine J_ck (fun hc7 => ?_)
      exact J_zret (pc := 81) (nar01 hc7) dX9_isKnown_81
  · refine J_iconst (pc := 18) (v := (0 : Int32)) dX9_isKnown_18 (by decide) ?_
    refine J_istore_n (pc := 19) (ls' := [some (.ref 89), some (.int x1), some (.int (0 : Int32)), none]) dX9_isKnown_19 (Nat.le_of_ble_eq_true rfl) rfl rfl ?_
    refine J_iconst (pc := 20) (v := (0 : Int32)) dX9_isKnown_20 (by decide) ?_
    refine J_istore_n (pc := 21) (ls' := [some (.ref 89), some (.int x1), some (.int (0 : Int32)), some (.int (0 : Int32))]) dX9_isKnown_21 (Nat.le_of_ble_eq_true rfl) rfl rfl ?_
    refine tl_X9_isKnown_22 hG hn (fun z8 I9 => ?_) fuel x1 (0 : Int32) (0 : Int32) I
    · refine J_iload_n (pc := 80) (x := z8) dX9_isKnown_80 rfl ?_
      refine J_ck (fun hc10 => ?_)
      exact J_zret (pc := 81) (nar01 hc10) dX9_isKnown_81
abbrev mu_X9_alike (G : Gt) : Mt (Int32 × Mem) := mi G cX9_alike 5 yX9_alike.cls (some .int) 4 102
def b_X9_alike_30 (K76 : Int32 → Mem → Option (Int32 × Mem)) (R : Int32 → Int32 → Int32 → Mem → Option (Int32 × Mem)) (x2 : Int32) (x3 : Int32) (x4 : Int32) (I : Mem) : Option (Int32 × Mem) :=
  (if ((1 : Int32) <<< (((2 : Int32) * x2) &&& 31)) ≤ x4 then K76 x3 I else bI (f_X9_isText x2 x4 I) fun r6 I5 => (if r6 = 0 then R x2 x3 (x4 + (1 : Int32)) I5 else bV (f_X9_foldAll I5) fun I7 => bI (f_X9_isKnown x2 I7) fun r9 I8 => (if r9 = 0 then R x2 (x3 + (0 : Int32)) (x4 + (1 : Int32)) I8 else R x2 (x3 + (1 : Int32)) (x4 + (1 : Int32)) I8)))
def l_X9_alike_30 (K76 : Int32 → Mem → Option (Int32 × Mem)) : Nat → Int32 → Int32 → Int32 → Mem → Option (Int32 × Mem) := fx (b_X9_alike_30 K76) (fun _ _ _ _ => none)
def f_X9_alike (x1 : Int32) (I : Mem) : Option (Int32 × Mem) :=
  bI (f_X9_isScheme x1 I) fun r2 I1 => (if r2 = 0 then some ((-1 : Int32), I1) else bV (f_X9_lays x1 I1) fun I3 => bV (f_X9_knows (I3 89 8) I3) fun I4 => l_X9_alike_30 (fun (z10 : Int32) I11 => some (z10, I11)) fuel (I3 89 8) (0 : Int32) (0 : Int32) I4)
set_option maxRecDepth 100000 in
theorem tb_X9_alike_30 {G : Gt} (hG : Gok G) (hn : gn G = 104) {K76 : Int32 → Mem → Option (Int32 × Mem)} (hK76 : ∀ (x3 : Int32) (I : Mem), J G (mu_X9_alike G) 76 [none, none, none, some (.int x3), none] [] I (K76 x3 I)) {R : Int32 → Int32 → Int32 → Mem → Option (Int32 × Mem)} (hR : ∀ (x2 : Int32) (x3 : Int32) (x4 : Int32) (I : Mem), J G (mu_X9_alike G) 30 [some (.ref 89), none, some (.int x2), some (.int x3), some (.int x4)] [] I (R x2 x3 x4 I)) (x2 : Int32) (x3 : Int32) (x4 : Int32) (I : Mem) : J G (mu_X9_alike G) 30 [some (.ref 89), none, some (.int x2), some (.int x3), some (.int x4)] [] I (b_X9_alike_30 K76 R x2 x3 x4 I) := by
  unfold b_X9_alike_30
  refine J_iload (pc := 30) (x := x4) dX9_alike_30 rfl ?_
  refine J_iconst (pc := 32) (v := (1 : Int32)) dX9_alike_32 (by decide) ?_
  refine J_iconst (pc := 33) (v := (2 : Int32)) dX9_alike_33 (by decide) ?_
  refine J_iload_n (pc := 34) (x := x2) dX9_alike_34 rfl ?_
  refine J_imul (pc := 35) dX9_alike_35 ?_
  refine J_ishl (pc := 36) dX9_alike_36 ?_
  refine J_icmp_ge (pc := 37) (tgt := 76) dX9_alike_37 (by decide) ?_ ?_
  · refine J_weak (ls' := [none, none, none, some (.int x3), none]) ⟨rfl, trivial⟩ ?_
    exact hK76 x3 I
  · refine J_aload_n (pc := 40) (x := 89) dX9_alike_40 rfl ?_
    refine J_iload_n (pc := 41) (x := x2) dX9_alike_41 rfl ?_
    refine J_iload (pc := 42) (x := x4) dX9_alike_42 rfl ?_
    refine J_callVi (pc := 44) (t := 9) (as := [.int x2, .int x4]) (st := []) (c_X9_isText hG hn x2 x4 I) (ok_m hn 89 (by decide) rfl) (by decide) rfl (cw_RX9_171 rfl) wd_553 wd_552 rfl ⟨Nat.le_of_ble_eq_true rfl, Nat.le_of_ble_eq_true rfl, Nat.le_of_ble_eq_true rfl, Nat.le_of_ble_eq_true rfl⟩ (Nat.le_of_ble_eq_true rfl) rfl dX9_alike_44 (fun r6 I5 => ?_)
    refine J_if_eq (pc := 47) (tgt := 70) dX9_alike_47 (by decide) ?_ ?_
    · refine J_iinc (pc := 70) (d := (1 : Int32)) (ls' := [some (.ref 89), none, some (.int x2), some (.int x3), some (.int (x4 + (1 : Int32)))]) dX9_alike_70 (by decide) rfl (Nat.le_of_ble_eq_true rfl) rfl rfl ?_
      refine J_goto (pc := 73) (tgt := 30) dX9_alike_73 (by decide) ?_
      exact hR x2 x3 (x4 + (1 : Int32)) I5
    · refine J_aload_n (pc := 50) (x := 89) dX9_alike_50 rfl ?_
      refine J_callVv (pc := 51) (t := 9) (as := []) (st := []) (c_X9_foldAll hG hn I5) (ok_m hn 89 (by decide) rfl) (by decide) rfl (cw_RX9_130 rfl) wd_537 wd_536 rfl ⟨Nat.le_of_ble_eq_true rfl, Nat.le_of_ble_eq_true rfl, Nat.le_of_ble_eq_true rfl, Nat.le_of_ble_eq_true rfl⟩ (Nat.le_of_ble_eq_true rfl) rfl dX9_alike_51 (fun I7 => ?_)
      refine J_iload_n (pc := 54) (x := x3) dX9_alike_54 rfl ?_
      refine J_aload_n (pc := 55) (x := 89) dX9_alike_55 rfl ?_
      refine J_iload_n (pc := 56) (x := x2) dX9_alike_56 rfl ?_
      refine J_callVi (pc := 57) (t := 9) (as := [.int x2]) (st := [.int x3]) (c_X9_isKnown hG hn x2 I7) (ok_m hn 89 (by decide) rfl) (by decide) rfl (cw_RX9_178 rfl) wd_562 wd_561 rfl ⟨Nat.le_of_ble_eq_true rfl, Nat.le_of_ble_eq_true rfl, Nat.le_of_ble_eq_true rfl, Nat.le_of_ble_eq_true rfl⟩ (Nat.le_of_ble_eq_true rfl) rfl dX9_alike_57 (fun r9 I8 => ?_)
      refine J_if_eq (pc := 60) (tgt := 67) dX9_alike_60 (by decide) ?_ ?_
      · refine J_iconst (pc := 67) (v := (0 : Int32)) dX9_alike_67 (by decide) ?_
        refine J_iadd (pc := 68) dX9_alike_68 ?_
        refine J_istore_n (pc := 69) (ls' := [some (.ref 89), none, some (.int x2), some (.int (x3 + (0 : Int32))), some (.int x4)]) dX9_alike_69 (Nat.le_of_ble_eq_true rfl) rfl rfl ?_
        refine J_iinc (pc := 70) (d := (1 : Int32)) (ls' := [some (.ref 89), none, some (.int x2), some (.int (x3 + (0 : Int32))), some (.int (x4 + (1 : Int32)))]) dX9_alike_70 (by decide) rfl (Nat.le_of_ble_eq_true rfl) rfl rfl ?_
        refine J_goto (pc := 73) (tgt := 30) dX9_alike_73 (by decide) ?_
        exact hR x2 (x3 + (0 : Int32)) (x4 + (1 : Int32)) I8
      · refine J_iconst (pc := 63) (v := (1 : Int32)) dX9_alike_63 (by decide) ?_
        refine J_goto (pc := 64) (tgt := 68) dX9_alike_64 (by decide) ?_
        refine J_iadd (pc := 68) dX9_alike_68 ?_
        refine J_istore_n (pc := 69) (ls' := [some (.ref 89), none, some (.int x2), some (.int (x3 + (1 : Int32))), some (.int x4)]) dX9_alike_69 (Nat.le_of_ble_eq_true rfl) rfl rfl ?_
        refine J_iinc (pc := 70) (d := (1 : Int32)) (ls' := [some (.ref 89), none, some (.int x2), some (.int (x3 + (1 : Int32))), some (.int (x4 + (1 : Int32)))]) dX9_alike_70 (by decide) rfl (Nat.le_of_ble_eq_true rfl) rfl rfl ?_
        refine J_goto (pc := 73) (tgt := 30) dX9_alike_73 (by decide) ?_
        exact hR x2 (x3 + (1 : Int32)) (x4 + (1 : Int32)) I8
theorem tl_X9_alike_30 {G : Gt} (hG : Gok G) (hn : gn G = 104) {K76 : Int32 → Mem → Option (Int32 × Mem)} (hK76 : ∀ (x3 : Int32) (I : Mem), J G (mu_X9_alike G) 76 [none, none, none, some (.int x3), none] [] I (K76 x3 I)) (n : Nat) : ∀ (x2 : Int32) (x3 : Int32) (x4 : Int32) (I : Mem), J G (mu_X9_alike G) 30 [some (.ref 89), none, some (.int x2), some (.int x3), some (.int x4)] [] I (l_X9_alike_30 K76 n x2 x3 x4 I) := by
  induction n with
  | zero => intro x2 x3 x4 I; exact J_none
  | succ n ih => intro x2 x3 x4 I; exact tb_X9_alike_30 hG hn hK76 ih x2 x3 x4 I
set_option maxRecDepth 100000 in
theorem c_X9_alike {G : Gt} (hG : Gok G) (hn : gn G = 104) (x1 : Int32) (I : Mem) : Cti G yX9_alike cX9_alike 5 (some .int) 4 102 [.ref 89, .int x1] I (f_X9_alike x1 I) := by
  refine Cti.of (ls := [some (.ref 89), some (.int x1), none, none, none]) 3 hG (by decide) rfl (Nat.le_of_ble_eq_true rfl) ?_
  unfold f_X9_alike
  refine J_aload_n (pc := 0) (x := 89) dX9_alike_0 rfl ?_
  refine J_iload_n (pc := 1) (x := x1) dX9_alike_1 rfl ?_
  refine J_callVi (pc := 2) (t := 9) (as := [.int x1]) (st := []) (c_X9_isScheme hG hn x1 I) (ok_m hn 89 (by decide) rfl) (by decide) rfl (cw_RX9_122 rfl) wd_485 wd_484 rfl ⟨Nat.le_of_ble_eq_true rfl, Nat.le_of_ble_eq_true rfl, Nat.le_of_ble_eq_true rfl, Nat.le_of_ble_eq_true rfl⟩ (Nat.le_of_ble_eq_true rfl) rfl dX9_alike_2 (fun r2 I1 => ?_)
  refine J_if_ne (pc := 5) (tgt := 10) dX9_alike_5 (by decide) ?_ ?_
  · refine J_iconst (pc := 8) (v := (-1 : Int32)) dX9_alike_8 (by decide) ?_
    exact J_iret (pc := 9) dX9_alike_9
  · refine J_aload_n (pc := 10) (x := 89) dX9_alike_10 rfl ?_
    refine J_iload_n (pc := 11) (x := x1) dX9_alike_11 rfl ?_
    refine J_callVv (pc := 12) (t := 9) (as := [.int x1]) (st := []) (c_X9_lays hG hn x1 I1) (ok_m hn 89 (by decide) rfl) (by decide) rfl (cw_RX9_160 rfl) wd_541 wd_540 rfl ⟨Nat.le_of_ble_eq_true rfl, Nat.le_of_ble_eq_true rfl, Nat.le_of_ble_eq_true rfl, Nat.le_of_ble_eq_true rfl⟩ (Nat.le_of_ble_eq_true rfl) rfl dX9_alike_12 (fun I3 => ?_)
    refine J_aload_n (pc := 15) (x := 89) dX9_alike_15 rfl ?_
    refine J_get (pc := 16) (t := 9) (k := 8) (.int (I3 89 8)) (ok_m hn 89 (by decide) rfl) (by decide) rfl ingX9 (by decide) wd_522 rfl dX9_alike_16 ?_
    refine J_istore_n (pc := 19) (ls' := [some (.ref 89), some (.int x1), some (.int (I3 89 8)), none, none]) dX9_alike_19 (Nat.le_of_ble_eq_true rfl) rfl rfl ?_
    refine J_aload_n (pc := 20) (x := 89) dX9_alike_20 rfl ?_
    refine J_iload_n (pc := 21) (x := (I3 89 8)) dX9_alike_21 rfl ?_
    refine J_callVv (pc := 22) (t := 9) (as := [.int (I3 89 8)]) (st := []) (c_X9_knows hG hn (I3 89 8) I3) (ok_m hn 89 (by decide) rfl) (by decide) rfl (cw_RX9_175 rfl) wd_558 wd_557 rfl ⟨Nat.le_of_ble_eq_true rfl, Nat.le_of_ble_eq_true rfl, Nat.le_of_ble_eq_true rfl, Nat.le_of_ble_eq_true rfl⟩ (Nat.le_of_ble_eq_true rfl) rfl dX9_alike_22 (fun I4 => ?_)
    refine J_iconst (pc := 25) (v := (0 : Int32)) dX9_alike_25 (by decide) ?_
    refine J_istore_n (pc := 26) (ls' := [some (.ref 89), some (.int x1), some (.int (I3 89 8)), some (.int (0 : Int32)), none]) dX9_alike_26 (Nat.le_of_ble_eq_true rfl) rfl rfl ?_
    refine J_iconst (pc := 27) (v := (0 : Int32)) dX9_alike_27 (by decide) ?_
    refine J_istore (pc := 28) (ls' := [some (.ref 89), some (.int x1), some (.int (I3 89 8)), some (.int (0 : Int32)), some (.int (0 : Int32))]) dX9_alike_28 (Nat.le_of_ble_eq_true rfl) rfl rfl ?_
    refine J_weak (ls' := [some (.ref 89), none, some (.int (I3 89 8)), some (.int (0 : Int32)), some (.int (0 : Int32))]) ⟨rfl, rfl, rfl, rfl, trivial⟩ ?_
    refine tl_X9_alike_30 hG hn (fun z10 I11 => ?_) fuel (I3 89 8) (0 : Int32) (0 : Int32) I4
    · refine J_iload_n (pc := 76) (x := z10) dX9_alike_76 rfl ?_
      exact J_iret (pc := 77) dX9_alike_77
abbrev mu_X9_unlike (G : Gt) : Mt (Int32 × Mem) := mi G cX9_unlike 6 yX9_unlike.cls (some .int) 3 80
def b_X9_unlike_51 (K97 : Int32 → Int32 → Int32 → Int32 → Mem → Option (Int32 × Mem)) (R : Int32 → Int32 → Int32 → Int32 → Int32 → Mem → Option (Int32 × Mem)) (x1 : Int32) (x2 : Int32) (x3 : Int32) (x4 : Int32) (x5 : Int32) (I : Mem) : Option (Int32 × Mem) :=
  (if x3 ≤ x5 then K97 x1 x2 x3 x4 I else (if x4 = 0 then K97 x1 x2 x3 x4 I else bI (f_X9_isText x1 x5 I) fun r8 I7 => (if r8 = 0 then R x1 x2 x3 x4 (x5 + (1 : Int32)) I7 else bV (f_X9_foldAll I7) fun I9 => bI (f_X9_isKnown x1 I9) fun r11 I10 => (if r11 = 0 then R x1 x2 x3 (1 : Int32) (x5 + (1 : Int32)) I10 else R x1 x2 x3 (0 : Int32) (x5 + (1 : Int32)) I10))))
def l_X9_unlike_51 (K97 : Int32 → Int32 → Int32 → Int32 → Mem → Option (Int32 × Mem)) : Nat → Int32 → Int32 → Int32 → Int32 → Int32 → Mem → Option (Int32 × Mem) := fx (b_X9_unlike_51 K97) (fun _ _ _ _ _ _ => none)
def j_X9_unlike_97 (R : Int32 → Int32 → Int32 → Mem → Option (Int32 × Mem)) (x1 : Int32) (x2 : Int32) (x3 : Int32) (x4 : Int32) (I : Mem) : Option (Int32 × Mem) :=
  (if x4 = 0 then R x1 (x2 + (0 : Int32)) (x3 + (1 : Int32)) I else R x1 (x2 + (1 : Int32)) (x3 + (1 : Int32)) I)
def b_X9_unlike_18 (K116 : Int32 → Mem → Option (Int32 × Mem)) (R : Int32 → Int32 → Int32 → Mem → Option (Int32 × Mem)) (x1 : Int32) (x2 : Int32) (x3 : Int32) (I : Mem) : Option (Int32 × Mem) :=
  (if ((1 : Int32) <<< (((2 : Int32) * x1) &&& 31)) ≤ x3 then K116 x2 I else bI (f_X9_isText x1 x3 I) fun r4 I3 => (if r4 = 0 then R x1 x2 (x3 + (1 : Int32)) I3 else bV (f_X9_foldAll I3) fun I5 => bV (f_X9_knows x1 I5) fun I6 => l_X9_unlike_51 (fun (z12 : Int32) (z13 : Int32) (z14 : Int32) (z15 : Int32) I16 => j_X9_unlike_97 R z12 z13 z14 z15 I16) fuel x1 x2 x3 (1 : Int32) (0 : Int32) I6))
def l_X9_unlike_18 (K116 : Int32 → Mem → Option (Int32 × Mem)) : Nat → Int32 → Int32 → Int32 → Mem → Option (Int32 × Mem) := fx (b_X9_unlike_18 K116) (fun _ _ _ _ => none)
def f_X9_unlike (x1 : Int32) (I : Mem) : Option (Int32 × Mem) :=
  bI (f_X9_in ((x1).toInt64) (1 : Int64) (4 : Int64) I) fun r2 I1 => (if r2 = 0 then some ((-1 : Int32), I1) else l_X9_unlike_18 (fun (z17 : Int32) I18 => some (z17, I18)) fuel x1 (0 : Int32) (0 : Int32) I1)
set_option maxRecDepth 100000 in
theorem tb_X9_unlike_51 {G : Gt} (hG : Gok G) (hn : gn G = 104) {K97 : Int32 → Int32 → Int32 → Int32 → Mem → Option (Int32 × Mem)} (hK97 : ∀ (x1 : Int32) (x2 : Int32) (x3 : Int32) (x4 : Int32) (I : Mem), J G (mu_X9_unlike G) 97 [some (.ref 89), some (.int x1), some (.int x2), some (.int x3), some (.int x4), none] [] I (K97 x1 x2 x3 x4 I)) {R : Int32 → Int32 → Int32 → Int32 → Int32 → Mem → Option (Int32 × Mem)} (hR : ∀ (x1 : Int32) (x2 : Int32) (x3 : Int32) (x4 : Int32) (x5 : Int32) (I : Mem), J G (mu_X9_unlike G) 51 [some (.ref 89), some (.int x1), some (.int x2), some (.int x3), some (.int x4), some (.int x5)] [] I (R x1 x2 x3 x4 x5 I)) (x1 : Int32) (x2 : Int32) (x3 : Int32) (x4 : Int32) (x5 : Int32) (I : Mem) : J G (mu_X9_unlike G) 51 [some (.ref 89), some (.int x1), some (.int x2), some (.int x3), some (.int x4), some (.int x5)] [] I (b_X9_unlike_51 K97 R x1 x2 x3 x4 x5 I) := by
  unfold b_X9_unlike_51
  refine J_iload (pc := 51) (x := x5) dX9_unlike_51 rfl ?_
  refine J_iload_n (pc := 53) (x := x3) dX9_unlike_53 rfl ?_
  refine J_icmp_ge (pc := 54) (tgt := 97) dX9_unlike_54 (by decide) ?_ ?_
  · refine J_weak (ls' := [some (.ref 89), some (.int x1), some (.int x2), some (.int x3), some (.int x4), none]) ⟨rfl, rfl, rfl, rfl, rfl, trivial⟩ ?_
    exact hK97 x1 x2 x3 x4 I
  · refine J_iload (pc := 57) (x := x4) dX9_unlike_57 rfl ?_
    refine J_if_eq (pc := 59) (tgt := 97) dX9_unlike_59 (by decide) ?_ ?_
    · refine J_weak (ls' := [some (.ref 89), some (.int x1), some (.int x2), some (.int x3), some (.int x4), none]) ⟨rfl, rfl, rfl, rfl, rfl, trivial⟩ ?_
      exact hK97 x1 x2 x3 x4 I
    · refine J_aload_n (pc := 62) (x := 89) dX9_unlike_62 rfl ?_
      refine J_iload_n (pc := 63) (x := x1) dX9_unlike_63 rfl ?_
      refine J_iload (pc := 64) (x := x5) dX9_unlike_64 rfl ?_
      refine J_callVi (pc := 66) (t := 9) (as := [.int x1, .int x5]) (st := []) (c_X9_isText hG hn x1 x5 I) (ok_m hn 89 (by decide) rfl) (by decide) rfl (cw_RX9_171 rfl) wd_553 wd_552 rfl ⟨Nat.le_of_ble_eq_true rfl, Nat.le_of_ble_eq_true rfl, Nat.le_of_ble_eq_true rfl, Nat.le_of_ble_eq_true rfl⟩ (Nat.le_of_ble_eq_true rfl) rfl dX9_unlike_66 (fun r8 I7 => ?_)
      refine J_if_eq (pc := 69) (tgt := 91) dX9_unlike_69 (by decide) ?_ ?_
      · refine J_iinc (pc := 91) (d := (1 : Int32)) (ls' := [some (.ref 89), some (.int x1), some (.int x2), some (.int x3), some (.int x4), some (.int (x5 + (1 : Int32)))]) dX9_unlike_91 (by decide) rfl (Nat.le_of_ble_eq_true rfl) rfl rfl ?_
        refine J_goto (pc := 94) (tgt := 51) dX9_unlike_94 (by decide) ?_
        exact hR x1 x2 x3 x4 (x5 + (1 : Int32)) I7
      · refine J_aload_n (pc := 72) (x := 89) dX9_unlike_72 rfl ?_
        refine J_callVv (pc := 73) (t := 9) (as := []) (st := []) (c_X9_foldAll hG hn I7) (ok_m hn 89 (by decide) rfl) (by decide) rfl (cw_RX9_130 rfl) wd_537 wd_536 rfl ⟨Nat.le_of_ble_eq_true rfl, Nat.le_of_ble_eq_true rfl, Nat.le_of_ble_eq_true rfl, Nat.le_of_ble_eq_true rfl⟩ (Nat.le_of_ble_eq_true rfl) rfl dX9_unlike_73 (fun I9 => ?_)
        refine J_aload_n (pc := 76) (x := 89) dX9_unlike_76 rfl ?_
        refine J_iload_n (pc := 77) (x := x1) dX9_unlike_77 rfl ?_
        refine J_callVi (pc := 78) (t := 9) (as := [.int x1]) (st := []) (c_X9_isKnown hG hn x1 I9) (ok_m hn 89 (by decide) rfl) (by decide) rfl (cw_RX9_178 rfl) wd_562 wd_561 rfl ⟨Nat.le_of_ble_eq_true rfl, Nat.le_of_ble_eq_true rfl, Nat.le_of_ble_eq_true rfl, Nat.le_of_ble_eq_true rfl⟩ (Nat.le_of_ble_eq_true rfl) rfl dX9_unlike_78 (fun r11 I10 => ?_)
        refine J_if_ne (pc := 81) (tgt := 88) dX9_unlike_81 (by decide) ?_ ?_
        · refine J_iconst (pc := 84) (v := (1 : Int32)) dX9_unlike_84 (by decide) ?_
          refine J_goto (pc := 85) (tgt := 89) dX9_unlike_85 (by decide) ?_
          refine J_istore (pc := 89) (ls' := [some (.ref 89), some (.int x1), some (.int x2), some (.int x3), some (.int (1 : Int32)), some (.int x5)]) dX9_unlike_89 (Nat.le_of_ble_eq_true rfl) rfl rfl ?_
          refine J_iinc (pc := 91) (d := (1 : Int32)) (ls' := [some (.ref 89), some (.int x1), some (.int x2), some (.int x3), some (.int (1 : Int32)), some (.int (x5 + (1 : Int32)))]) dX9_unlike_91 (by decide) rfl (Nat.le_of_ble_eq_true rfl) rfl rfl ?_
          refine J_goto (pc := 94) (tgt := 51) dX9_unlike_94 (by decide) ?_
          exact hR x1 x2 x3 (1 : Int32) (x5 + (1 : Int32)) I10
        · refine J_iconst (pc := 88) (v := (0 : Int32)) dX9_unlike_88 (by decide) ?_
          refine J_istore (pc := 89) (ls' := [some (.ref 89), some (.int x1), some (.int x2), some (.int x3), some (.int (0 : Int32)), some (.int x5)]) dX9_unlike_89 (Nat.le_of_ble_eq_true rfl) rfl rfl ?_
          refine J_iinc (pc := 91) (d := (1 : Int32)) (ls' := [some (.ref 89), some (.int x1), some (.int x2), some (.int x3), some (.int (0 : Int32)), some (.int (x5 + (1 : Int32)))]) dX9_unlike_91 (by decide) rfl (Nat.le_of_ble_eq_true rfl) rfl rfl ?_
          refine J_goto (pc := 94) (tgt := 51) dX9_unlike_94 (by decide) ?_
          exact hR x1 x2 x3 (0 : Int32) (x5 + (1 : Int32)) I10
theorem tl_X9_unlike_51 {G : Gt} (hG : Gok G) (hn : gn G = 104) {K97 : Int32 → Int32 → Int32 → Int32 → Mem → Option (Int32 × Mem)} (hK97 : ∀ (x1 : Int32) (x2 : Int32) (x3 : Int32) (x4 : Int32) (I : Mem), J G (mu_X9_unlike G) 97 [some (.ref 89), some (.int x1), some (.int x2), some (.int x3), some (.int x4), none] [] I (K97 x1 x2 x3 x4 I)) (n : Nat) : ∀ (x1 : Int32) (x2 : Int32) (x3 : Int32) (x4 : Int32) (x5 : Int32) (I : Mem), J G (mu_X9_unlike G) 51 [some (.ref 89), some (.int x1), some (.int x2), some (.int x3), some (.int x4), some (.int x5)] [] I (l_X9_unlike_51 K97 n x1 x2 x3 x4 x5 I) := by
  induction n with
  | zero => intro x1 x2 x3 x4 x5 I; exact J_none
  | succ n ih => intro x1 x2 x3 x4 x5 I; exact tb_X9_unlike_51 hG hn hK97 ih x1 x2 x3 x4 x5 I
set_option maxRecDepth 100000 in
theorem tj_X9_unlike_97 {G : Gt} (hG : Gok G) (hn : gn G = 104) {R : Int32 → Int32 → Int32 → Mem → Option (Int32 × Mem)} (hR : ∀ (x1 : Int32) (x2 : Int32) (x3 : Int32) (I : Mem), J G (mu_X9_unlike G) 18 [some (.ref 89), some (.int x1), some (.int x2), some (.int x3), none, none] [] I (R x1 x2 x3 I)) (x1 : Int32) (x2 : Int32) (x3 : Int32) (x4 : Int32) (I : Mem) : J G (mu_X9_unlike G) 97 [some (.ref 89), some (.int x1), some (.int x2), some (.int x3), some (.int x4), none] [] I (j_X9_unlike_97 R x1 x2 x3 x4 I) := by
  unfold j_X9_unlike_97
  refine J_iload_n (pc := 97) (x := x2) dX9_unlike_97 rfl ?_
  refine J_iload (pc := 98) (x := x4) dX9_unlike_98 rfl ?_
  refine J_if_eq (pc := 100) (tgt := 107) dX9_unlike_100 (by decide) ?_ ?_
  · refine J_iconst (pc := 107) (v := (0 : Int32)) dX9_unlike_107 (by decide) ?_
    refine J_iadd (pc := 108) dX9_unlike_108 ?_
    refine J_istore_n (pc := 109) (ls' := [some (.ref 89), some (.int x1), some (.int (x2 + (0 : Int32))), some (.int x3), some (.int x4), none]) dX9_unlike_109 (Nat.le_of_ble_eq_true rfl) rfl rfl ?_
    refine J_iinc (pc := 110) (d := (1 : Int32)) (ls' := [some (.ref 89), some (.int x1), some (.int (x2 + (0 : Int32))), some (.int (x3 + (1 : Int32))), some (.int x4), none]) dX9_unlike_110 (by decide) rfl (Nat.le_of_ble_eq_true rfl) rfl rfl ?_
    refine J_goto (pc := 113) (tgt := 18) dX9_unlike_113 (by decide) ?_
    refine J_weak (ls' := [some (.ref 89), some (.int x1), some (.int (x2 + (0 : Int32))), some (.int (x3 + (1 : Int32))), none, none]) ⟨rfl, rfl, rfl, rfl, trivial⟩ ?_
    exact hR x1 (x2 + (0 : Int32)) (x3 + (1 : Int32)) I
  · refine J_iconst (pc := 103) (v := (1 : Int32)) dX9_unlike_103 (by decide) ?_
    refine J_goto (pc := 104) (tgt := 108) dX9_unlike_104 (by decide) ?_
    refine J_iadd (pc := 108) dX9_unlike_108 ?_
    refine J_istore_n (pc := 109) (ls' := [some (.ref 89), some (.int x1), some (.int (x2 + (1 : Int32))), some (.int x3), some (.int x4), none]) dX9_unlike_109 (Nat.le_of_ble_eq_true rfl) rfl rfl ?_
    refine J_iinc (pc := 110) (d := (1 : Int32)) (ls' := [some (.ref 89), some (.int x1), some (.int (x2 + (1 : Int32))), some (.int (x3 + (1 : Int32))), some (.int x4), none]) dX9_unlike_110 (by decide) rfl (Nat.le_of_ble_eq_true rfl) rfl rfl ?_
    refine J_goto (pc := 113) (tgt := 18) dX9_unlike_113 (by decide) ?_
    refine J_weak (ls' := [some (.ref 89), some (.int x1), some (.int (x2 + (1 : Int32))), some (.int (x3 + (1 : Int32))), none, none]) ⟨rfl, rfl, rfl, rfl, trivial⟩ ?_
    exact hR x1 (x2 + (1 : Int32)) (x3 + (1 : Int32)) I
set_option maxRecDepth 100000 in
theorem tb_X9_unlike_18 {G : Gt} (hG : Gok G) (hn : gn G = 104) {K116 : Int32 → Mem → Option (Int32 × Mem)} (hK116 : ∀ (x2 : Int32) (I : Mem), J G (mu_X9_unlike G) 116 [none, none, some (.int x2), none, none, none] [] I (K116 x2 I)) {R : Int32 → Int32 → Int32 → Mem → Option (Int32 × Mem)} (hR : ∀ (x1 : Int32) (x2 : Int32) (x3 : Int32) (I : Mem), J G (mu_X9_unlike G) 18 [some (.ref 89), some (.int x1), some (.int x2), some (.int x3), none, none] [] I (R x1 x2 x3 I)) (x1 : Int32) (x2 : Int32) (x3 : Int32) (I : Mem) : J G (mu_X9_unlike G) 18 [some (.ref 89), some (.int x1), some (.int x2), some (.int x3), none, none] [] I (b_X9_unlike_18 K116 R x1 x2 x3 I) := by
  unfold b_X9_unlike_18
  refine J_iload_n (pc := 18) (x := x3) dX9_unlike_18 rfl ?_
  refine J_iconst (pc := 19) (v := (1 : Int32)) dX9_unlike_19 (by decide) ?_
  refine J_iconst (pc := 20) (v := (2 : Int32)) dX9_unlike_20 (by decide) ?_
  refine J_iload_n (pc := 21) (x := x1) dX9_unlike_21 rfl ?_
  refine J_imul (pc := 22) dX9_unlike_22 ?_
  refine J_ishl (pc := 23) dX9_unlike_23 ?_
  refine J_icmp_ge (pc := 24) (tgt := 116) dX9_unlike_24 (by decide) ?_ ?_
  · refine J_weak (ls' := [none, none, some (.int x2), none, none, none]) ⟨rfl, trivial⟩ ?_
    exact hK116 x2 I
  · refine J_aload_n (pc := 27) (x := 89) dX9_unlike_27 rfl ?_
    refine J_iload_n (pc := 28) (x := x1) dX9_unlike_28 rfl ?_
    refine J_iload_n (pc := 29) (x := x3) dX9_unlike_29 rfl ?_
    refine J_callVi (pc := 30) (t := 9) (as := [.int x1, .int x3]) (st := []) (c_X9_isText hG hn x1 x3 I) (ok_m hn 89 (by decide) rfl) (by decide) rfl (cw_RX9_171 rfl) wd_553 wd_552 rfl ⟨Nat.le_of_ble_eq_true rfl, Nat.le_of_ble_eq_true rfl, Nat.le_of_ble_eq_true rfl, Nat.le_of_ble_eq_true rfl⟩ (Nat.le_of_ble_eq_true rfl) rfl dX9_unlike_30 (fun r4 I3 => ?_)
    refine J_if_eq (pc := 33) (tgt := 110) dX9_unlike_33 (by decide) ?_ ?_
    · refine J_iinc (pc := 110) (d := (1 : Int32)) (ls' := [some (.ref 89), some (.int x1), some (.int x2), some (.int (x3 + (1 : Int32))), none, none]) dX9_unlike_110 (by decide) rfl (Nat.le_of_ble_eq_true rfl) rfl rfl ?_
      refine J_goto (pc := 113) (tgt := 18) dX9_unlike_113 (by decide) ?_
      exact hR x1 x2 (x3 + (1 : Int32)) I3
    · refine J_aload_n (pc := 36) (x := 89) dX9_unlike_36 rfl ?_
      refine J_callVv (pc := 37) (t := 9) (as := []) (st := []) (c_X9_foldAll hG hn I3) (ok_m hn 89 (by decide) rfl) (by decide) rfl (cw_RX9_130 rfl) wd_537 wd_536 rfl ⟨Nat.le_of_ble_eq_true rfl, Nat.le_of_ble_eq_true rfl, Nat.le_of_ble_eq_true rfl, Nat.le_of_ble_eq_true rfl⟩ (Nat.le_of_ble_eq_true rfl) rfl dX9_unlike_37 (fun I5 => ?_)
      refine J_aload_n (pc := 40) (x := 89) dX9_unlike_40 rfl ?_
      refine J_iload_n (pc := 41) (x := x1) dX9_unlike_41 rfl ?_
      refine J_callVv (pc := 42) (t := 9) (as := [.int x1]) (st := []) (c_X9_knows hG hn x1 I5) (ok_m hn 89 (by decide) rfl) (by decide) rfl (cw_RX9_175 rfl) wd_558 wd_557 rfl ⟨Nat.le_of_ble_eq_true rfl, Nat.le_of_ble_eq_true rfl, Nat.le_of_ble_eq_true rfl, Nat.le_of_ble_eq_true rfl⟩ (Nat.le_of_ble_eq_true rfl) rfl dX9_unlike_42 (fun I6 => ?_)
      refine J_iconst (pc := 45) (v := (1 : Int32)) dX9_unlike_45 (by decide) ?_
      refine J_istore (pc := 46) (ls' := [some (.ref 89), some (.int x1), some (.int x2), some (.int x3), some (.int (1 : Int32)), none]) dX9_unlike_46 (Nat.le_of_ble_eq_true rfl) rfl rfl ?_
      refine J_iconst (pc := 48) (v := (0 : Int32)) dX9_unlike_48 (by decide) ?_
      refine J_istore (pc := 49) (ls' := [some (.ref 89), some (.int x1), some (.int x2), some (.int x3), some (.int (1 : Int32)), some (.int (0 : Int32))]) dX9_unlike_49 (Nat.le_of_ble_eq_true rfl) rfl rfl ?_
      refine tl_X9_unlike_51 hG hn (fun z12 z13 z14 z15 I16 => ?_) fuel x1 x2 x3 (1 : Int32) (0 : Int32) I6
      · exact tj_X9_unlike_97 hG hn hR z12 z13 z14 z15 I16
theorem tl_X9_unlike_18 {G : Gt} (hG : Gok G) (hn : gn G = 104) {K116 : Int32 → Mem → Option (Int32 × Mem)} (hK116 : ∀ (x2 : Int32) (I : Mem), J G (mu_X9_unlike G) 116 [none, none, some (.int x2), none, none, none] [] I (K116 x2 I)) (n : Nat) : ∀ (x1 : Int32) (x2 : Int32) (x3 : Int32) (I : Mem), J G (mu_X9_unlike G) 18 [some (.ref 89), some (.int x1), some (.int x2), some (.int x3), none, none] [] I (l_X9_unlike_18 K116 n x1 x2 x3 I) := by
  induction n with
  | zero => intro x1 x2 x3 I; exact J_none
  | succ n ih => intro x1 x2 x3 I; exact tb_X9_unlike_18 hG hn hK116 ih x1 x2 x3 I
set_option maxRecDepth 100000 in
theorem c_X9_unlike {G : Gt} (hG : Gok G) (hn : gn G = 104) (x1 : Int32) (I : Mem) : Cti G yX9_unlike cX9_unlike 6 (some .int) 3 80 [.ref 89, .int x1] I (f_X9_unlike x1 I) := by
  refine Cti.of (ls := [some (.ref 89), some (.int x1), none, none, none, none]) 4 hG (by decide) rfl (Nat.le_of_ble_eq_true rfl) ?_
  unfold f_X9_unlike
  refine J_iload_n (pc := 0) (x := x1) dX9_unlike_0 rfl ?_
  refine J_i2l (pc := 1) dX9_unlike_1 ?_
  refine J_lconst (pc := 2) (v := (1 : Int64)) dX9_unlike_2 (by decide) ?_
  refine J_ldc2 (pc := 3) (v := (4 : Int64)) wd_432 dX9_unlike_3 ?_
  refine J_callSi (pc := 6) (as := [.long ((x1).toInt64), .long (1 : Int64), .long (4 : Int64)]) (st := []) (c_X9_in hG hn ((x1).toInt64) (1 : Int64) (4 : Int64) I) (cw_RX9_57 rfl) wd_425 rfl ⟨Nat.le_of_ble_eq_true rfl, Nat.le_of_ble_eq_true rfl, Nat.le_of_ble_eq_true rfl, Nat.le_of_ble_eq_true rfl⟩ (Nat.le_of_ble_eq_true rfl) rfl dX9_unlike_6 (fun r2 I1 => ?_)
  refine J_if_ne (pc := 9) (tgt := 14) dX9_unlike_9 (by decide) ?_ ?_
  · refine J_iconst (pc := 12) (v := (-1 : Int32)) dX9_unlike_12 (by decide) ?_
    exact J_iret (pc := 13) dX9_unlike_13
  · refine J_iconst (pc := 14) (v := (0 : Int32)) dX9_unlike_14 (by decide) ?_
    refine J_istore_n (pc := 15) (ls' := [some (.ref 89), some (.int x1), some (.int (0 : Int32)), none, none, none]) dX9_unlike_15 (Nat.le_of_ble_eq_true rfl) rfl rfl ?_
    refine J_iconst (pc := 16) (v := (0 : Int32)) dX9_unlike_16 (by decide) ?_
    refine J_istore_n (pc := 17) (ls' := [some (.ref 89), some (.int x1), some (.int (0 : Int32)), some (.int (0 : Int32)), none, none]) dX9_unlike_17 (Nat.le_of_ble_eq_true rfl) rfl rfl ?_
    refine tl_X9_unlike_18 hG hn (fun z17 I18 => ?_) fuel x1 (0 : Int32) (0 : Int32) I1
    · refine J_iload_n (pc := 116) (x := z17) dX9_unlike_116 rfl ?_
      exact J_iret (pc := 117) dX9_unlike_117
abbrev mu_X9_plan (G : Gt) : Mt (Int32 × Mem) := mi G cX9_plan 5 yX9_plan.cls (some .int) 3 67
def b_X9_plan_24 (K56 : Int32 → Int32 → Int32 → Mem → Option (Int32 × Mem)) (R : Int32 → Int32 → Int32 → Int32 → Mem → Option (Int32 × Mem)) (x1 : Int32) (x2 : Int32) (x3 : Int32) (x4 : Int32) (I : Mem) : Option (Int32 × Mem) :=
  (if (4 : Int32) ≤ x4 then K56 x1 x2 x3 I else ck (inb x4 4) <| ck (inb ((4 : Int32) + x4) 132) <| R x1 x2 (x3 + ((I 102 (tn x4)) * (I 91 (tn ((4 : Int32) + x4))))) (x4 + (1 : Int32)) I)
def l_X9_plan_24 (K56 : Int32 → Int32 → Int32 → Mem → Option (Int32 × Mem)) : Nat → Int32 → Int32 → Int32 → Int32 → Mem → Option (Int32 × Mem) := fx (b_X9_plan_24 K56) (fun _ _ _ _ _ => none)
def f_X9_plan (x1 : Int32) (I : Mem) : Option (Int32 × Mem) :=
  bI (f_X9_in ((x1).toInt64) (0 : Int64) (3 : Int64) I) fun r2 I1 => (if r2 = 0 then some ((-1 : Int32), I1) else bI (f_X9_sheetMany I1) fun r4 I3 => l_X9_plan_24 (fun (z7 : Int32) (z8 : Int32) (z9 : Int32) I10 => (if z7 = 0 then some (z8, I10) else (if z7 = (1 : Int32) then some (((I10 89 20) - (I10 91 0)), I10) else (if z7 = (2 : Int32) then some (z9, I10) else some ((I10 89 20), I10))))) fuel x1 r4 (0 : Int32) (0 : Int32) I3)
set_option maxRecDepth 100000 in
theorem tb_X9_plan_24 {G : Gt} (hG : Gok G) (hn : gn G = 104) {K56 : Int32 → Int32 → Int32 → Mem → Option (Int32 × Mem)} (hK56 : ∀ (x1 : Int32) (x2 : Int32) (x3 : Int32) (I : Mem), J G (mu_X9_plan G) 56 [some (.ref 89), some (.int x1), some (.int x2), some (.int x3), none] [] I (K56 x1 x2 x3 I)) {R : Int32 → Int32 → Int32 → Int32 → Mem → Option (Int32 × Mem)} (hR : ∀ (x1 : Int32) (x2 : Int32) (x3 : Int32) (x4 : Int32) (I : Mem), J G (mu_X9_plan G) 24 [some (.ref 89), some (.int x1), some (.int x2), some (.int x3), some (.int x4)] [] I (R x1 x2 x3 x4 I)) (x1 : Int32) (x2 : Int32) (x3 : Int32) (x4 : Int32) (I : Mem) : J G (mu_X9_plan G) 24 [some (.ref 89), some (.int x1), some (.int x2), some (.int x3), some (.int x4)] [] I (b_X9_plan_24 K56 R x1 x2 x3 x4 I) := by
  unfold b_X9_plan_24
  refine J_iload (pc := 24) (x := x4) dX9_plan_24 rfl ?_
  refine J_iconst (pc := 26) (v := (4 : Int32)) dX9_plan_26 (by decide) ?_
  refine J_icmp_ge (pc := 27) (tgt := 56) dX9_plan_27 (by decide) ?_ ?_
  · refine J_weak (ls' := [some (.ref 89), some (.int x1), some (.int x2), some (.int x3), none]) ⟨rfl, rfl, rfl, rfl, trivial⟩ ?_
    exact hK56 x1 x2 x3 I
  · refine J_iload_n (pc := 30) (x := x3) dX9_plan_30 rfl ?_
    refine J_aload_n (pc := 31) (x := 89) dX9_plan_31 rfl ?_
    refine J_get (pc := 32) (t := 9) (k := 19) (.ref 102) (ok_m hn 89 (by decide) rfl) (by decide) rfl ingX9 (by decide) wd_499 rfl dX9_plan_32 ?_
    refine J_iload (pc := 35) (x := x4) dX9_plan_35 rfl ?_
    refine J_ck (fun hc5 => ?_)
    refine J_ild (pc := 37) (t := 42) (k := (tn x4)) (ok_m hn 102 (by decide) rfl) iT_42 (inb_in hc5) rfl dX9_plan_37 ?_
    refine J_aload_n (pc := 38) (x := 89) dX9_plan_38 rfl ?_
    refine J_get (pc := 39) (t := 9) (k := 2) (.ref 91) (ok_m hn 89 (by decide) rfl) (by decide) rfl ingX9 (by decide) wd_467 rfl dX9_plan_39 ?_
    refine J_iconst (pc := 42) (v := (4 : Int32)) dX9_plan_42 (by decide) ?_
    refine J_iload (pc := 43) (x := x4) dX9_plan_43 rfl ?_
    refine J_iadd (pc := 45) dX9_plan_45 ?_
    refine J_ck (fun hc6 => ?_)
    refine J_ild (pc := 46) (t := 31) (k := (tn ((4 : Int32) + x4))) (ok_m hn 91 (by decide) rfl) iT_31 (inb_in hc6) rfl dX9_plan_46 ?_
    refine J_imul (pc := 47) dX9_plan_47 ?_
    refine J_iadd (pc := 48) dX9_plan_48 ?_
    refine J_istore_n (pc := 49) (ls' := [some (.ref 89), some (.int x1), some (.int x2), some (.int (x3 + ((I 102 (tn x4)) * (I 91 (tn ((4 : Int32) + x4)))))), some (.int x4)]) dX9_plan_49 (Nat.le_of_ble_eq_true rfl) rfl rfl ?_
    refine J_iinc (pc := 50) (d := (1 : Int32)) (ls' := [some (.ref 89), some (.int x1), some (.int x2), some (.int (x3 + ((I 102 (tn x4)) * (I 91 (tn ((4 : Int32) + x4)))))), some (.int (x4 + (1 : Int32)))]) dX9_plan_50 (by decide) rfl (Nat.le_of_ble_eq_true rfl) rfl rfl ?_
    refine J_goto (pc := 53) (tgt := 24) dX9_plan_53 (by decide) ?_
    exact hR x1 x2 (x3 + ((I 102 (tn x4)) * (I 91 (tn ((4 : Int32) + x4))))) (x4 + (1 : Int32)) I
theorem tl_X9_plan_24 {G : Gt} (hG : Gok G) (hn : gn G = 104) {K56 : Int32 → Int32 → Int32 → Mem → Option (Int32 × Mem)} (hK56 : ∀ (x1 : Int32) (x2 : Int32) (x3 : Int32) (I : Mem), J G (mu_X9_plan G) 56 [some (.ref 89), some (.int x1), some (.int x2), some (.int x3), none] [] I (K56 x1 x2 x3 I)) (n : Nat) : ∀ (x1 : Int32) (x2 : Int32) (x3 : Int32) (x4 : Int32) (I : Mem), J G (mu_X9_plan G) 24 [some (.ref 89), some (.int x1), some (.int x2), some (.int x3), some (.int x4)] [] I (l_X9_plan_24 K56 n x1 x2 x3 x4 I) := by
  induction n with
  | zero => intro x1 x2 x3 x4 I; exact J_none
  | succ n ih => intro x1 x2 x3 x4 I; exact tb_X9_plan_24 hG hn hK56 ih x1 x2 x3 x4 I
set_option maxRecDepth 100000 in
theorem c_X9_plan {G : Gt} (hG : Gok G) (hn : gn G = 104) (x1 : Int32) (I : Mem) : Cti G yX9_plan cX9_plan 5 (some .int) 3 67 [.ref 89, .int x1] I (f_X9_plan x1 I) := by
  refine Cti.of (ls := [some (.ref 89), some (.int x1), none, none, none]) 3 hG (by decide) rfl (Nat.le_of_ble_eq_true rfl) ?_
  unfold f_X9_plan
  refine J_iload_n (pc := 0) (x := x1) dX9_plan_0 rfl ?_
  refine J_i2l (pc := 1) dX9_plan_1 ?_
  refine J_lconst (pc := 2) (v := (0 : Int64)) dX9_plan_2 (by decide) ?_
  refine J_ldc2 (pc := 3) (v := (3 : Int64)) wd_521 dX9_plan_3 ?_
  refine J_callSi (pc := 6) (as := [.long ((x1).toInt64), .long (0 : Int64), .long (3 : Int64)]) (st := []) (c_X9_in hG hn ((x1).toInt64) (0 : Int64) (3 : Int64) I) (cw_RX9_57 rfl) wd_425 rfl ⟨Nat.le_of_ble_eq_true rfl, Nat.le_of_ble_eq_true rfl, Nat.le_of_ble_eq_true rfl, Nat.le_of_ble_eq_true rfl⟩ (Nat.le_of_ble_eq_true rfl) rfl dX9_plan_6 (fun r2 I1 => ?_)
  refine J_if_ne (pc := 9) (tgt := 14) dX9_plan_9 (by decide) ?_ ?_
  · refine J_iconst (pc := 12) (v := (-1 : Int32)) dX9_plan_12 (by decide) ?_
    exact J_iret (pc := 13) dX9_plan_13
  · refine J_aload_n (pc := 14) (x := 89) dX9_plan_14 rfl ?_
    refine J_callVi (pc := 15) (t := 9) (as := []) (st := []) (c_X9_sheetMany hG hn I1) (ok_m hn 89 (by decide) rfl) (by decide) rfl (cw_RX9_188 rfl) wd_505 wd_504 rfl ⟨Nat.le_of_ble_eq_true rfl, Nat.le_of_ble_eq_true rfl, Nat.le_of_ble_eq_true rfl, Nat.le_of_ble_eq_true rfl⟩ (Nat.le_of_ble_eq_true rfl) rfl dX9_plan_15 (fun r4 I3 => ?_)
    refine J_istore_n (pc := 18) (ls' := [some (.ref 89), some (.int x1), some (.int r4), none, none]) dX9_plan_18 (Nat.le_of_ble_eq_true rfl) rfl rfl ?_
    refine J_iconst (pc := 19) (v := (0 : Int32)) dX9_plan_19 (by decide) ?_
    refine J_istore_n (pc := 20) (ls' := [some (.ref 89), some (.int x1), some (.int r4), some (.int (0 : Int32)), none]) dX9_plan_20 (Nat.le_of_ble_eq_true rfl) rfl rfl ?_
    refine J_iconst (pc := 21) (v := (0 : Int32)) dX9_plan_21 (by decide) ?_
    refine J_istore (pc := 22) (ls' := [some (.ref 89), some (.int x1), some (.int r4), some (.int (0 : Int32)), some (.int (0 : Int32))]) dX9_plan_22 (Nat.le_of_ble_eq_true rfl) rfl rfl ?_
    refine tl_X9_plan_24 hG hn (fun z7 z8 z9 I10 => ?_) fuel x1 r4 (0 : Int32) (0 : Int32) I3
    · refine J_iload_n (pc := 56) (x := z7) dX9_plan_56 rfl ?_
      refine J_if_ne (pc := 57) (tgt := 64) dX9_plan_57 (by decide) ?_ ?_
      · refine J_iload_n (pc := 60) (x := z8) dX9_plan_60 rfl ?_
        refine J_goto (pc := 61) (tgt := 96) dX9_plan_61 (by decide) ?_
        exact J_iret (pc := 96) dX9_plan_96
      · refine J_iload_n (pc := 64) (x := z7) dX9_plan_64 rfl ?_
        refine J_iconst (pc := 65) (v := (1 : Int32)) dX9_plan_65 (by decide) ?_
        refine J_icmp_ne (pc := 66) (tgt := 83) dX9_plan_66 (by decide) ?_ ?_
        · refine J_aload_n (pc := 69) (x := 89) dX9_plan_69 rfl ?_
          refine J_get (pc := 70) (t := 9) (k := 20) (.int (I10 89 20)) (ok_m hn 89 (by decide) rfl) (by decide) rfl ingX9 (by decide) wd_498 rfl dX9_plan_70 ?_
          refine J_aload_n (pc := 73) (x := 89) dX9_plan_73 rfl ?_
          refine J_get (pc := 74) (t := 9) (k := 2) (.ref 91) (ok_m hn 89 (by decide) rfl) (by decide) rfl ingX9 (by decide) wd_467 rfl dX9_plan_74 ?_
          refine J_iconst (pc := 77) (v := (0 : Int32)) dX9_plan_77 (by decide) ?_
          refine J_ild (pc := 78) (t := 31) (k := 0) (ok_m hn 91 (by decide) rfl) iT_31 (inb_in (by decide)) (by decide) dX9_plan_78 ?_
          refine J_isub (pc := 79) dX9_plan_79 ?_
          refine J_goto (pc := 80) (tgt := 96) dX9_plan_80 (by decide) ?_
          exact J_iret (pc := 96) dX9_plan_96
        · refine J_iload_n (pc := 83) (x := z7) dX9_plan_83 rfl ?_
          refine J_iconst (pc := 84) (v := (2 : Int32)) dX9_plan_84 (by decide) ?_
          refine J_icmp_ne (pc := 85) (tgt := 92) dX9_plan_85 (by decide) ?_ ?_
          · refine J_iload_n (pc := 88) (x := z9) dX9_plan_88 rfl ?_
            refine J_goto (pc := 89) (tgt := 96) dX9_plan_89 (by decide) ?_
            exact J_iret (pc := 96) dX9_plan_96
          · refine J_aload_n (pc := 92) (x := 89) dX9_plan_92 rfl ?_
            refine J_get (pc := 93) (t := 9) (k := 20) (.int (I10 89 20)) (ok_m hn 89 (by decide) rfl) (by decide) rfl ingX9 (by decide) wd_498 rfl dX9_plan_93 ?_
            exact J_iret (pc := 96) dX9_plan_96
abbrev mu_X9_blanks (G : Gt) : Mt (Int32 × Mem) := mi G cX9_blanks 2 yX9_blanks.cls (some .int) 2 47
def f_X9_blanks (x1 : Int32) (I : Mem) : Option (Int32 × Mem) :=
  bI (f_X9_in ((x1).toInt64) (1 : Int64) (400 : Int64) I) fun r2 I1 => (if r2 = 0 then some ((-1 : Int32), I1) else bV (f_X9_findPlan x1 I1) fun I3 => some (((I3 89 20) - x1), I3))
set_option maxRecDepth 100000 in
theorem c_X9_blanks {G : Gt} (hG : Gok G) (hn : gn G = 104) (x1 : Int32) (I : Mem) : Cti G yX9_blanks cX9_blanks 2 (some .int) 2 47 [.ref 89, .int x1] I (f_X9_blanks x1 I) := by
  refine Cti.of (ls := [some (.ref 89), some (.int x1)]) 0 hG (by decide) rfl (Nat.le_of_ble_eq_true rfl) ?_
  unfold f_X9_blanks
  refine J_iload_n (pc := 0) (x := x1) dX9_blanks_0 rfl ?_
  refine J_i2l (pc := 1) dX9_blanks_1 ?_
  refine J_lconst (pc := 2) (v := (1 : Int64)) dX9_blanks_2 (by decide) ?_
  refine J_ldc2 (pc := 3) (v := (400 : Int64)) wd_469 dX9_blanks_3 ?_
  refine J_callSi (pc := 6) (as := [.long ((x1).toInt64), .long (1 : Int64), .long (400 : Int64)]) (st := []) (c_X9_in hG hn ((x1).toInt64) (1 : Int64) (400 : Int64) I) (cw_RX9_57 rfl) wd_425 rfl ⟨Nat.le_of_ble_eq_true rfl, Nat.le_of_ble_eq_true rfl, Nat.le_of_ble_eq_true rfl, Nat.le_of_ble_eq_true rfl⟩ (Nat.le_of_ble_eq_true rfl) rfl dX9_blanks_6 (fun r2 I1 => ?_)
  refine J_if_ne (pc := 9) (tgt := 14) dX9_blanks_9 (by decide) ?_ ?_
  · refine J_iconst (pc := 12) (v := (-1 : Int32)) dX9_blanks_12 (by decide) ?_
    exact J_iret (pc := 13) dX9_blanks_13
  · refine J_aload_n (pc := 14) (x := 89) dX9_blanks_14 rfl ?_
    refine J_iload_n (pc := 15) (x := x1) dX9_blanks_15 rfl ?_
    refine J_callVv (pc := 16) (t := 9) (as := [.int x1]) (st := []) (c_X9_findPlan hG hn x1 I1) (ok_m hn 89 (by decide) rfl) (by decide) rfl (cw_RX9_154 rfl) wd_501 wd_500 rfl ⟨Nat.le_of_ble_eq_true rfl, Nat.le_of_ble_eq_true rfl, Nat.le_of_ble_eq_true rfl, Nat.le_of_ble_eq_true rfl⟩ (Nat.le_of_ble_eq_true rfl) rfl dX9_blanks_16 (fun I3 => ?_)
    refine J_aload_n (pc := 19) (x := 89) dX9_blanks_19 rfl ?_
    refine J_get (pc := 20) (t := 9) (k := 20) (.int (I3 89 20)) (ok_m hn 89 (by decide) rfl) (by decide) rfl ingX9 (by decide) wd_498 rfl dX9_blanks_20 ?_
    refine J_iload_n (pc := 23) (x := x1) dX9_blanks_23 rfl ?_
    refine J_isub (pc := 24) dX9_blanks_24 ?_
    exact J_iret (pc := 25) dX9_blanks_25
abbrev mu_X9_schemeOf (G : Gt) : Mt (Int32 × Mem) := mi G cX9_schemeOf 4 yX9_schemeOf.cls (some .int) 0 0
def b_X9_schemeOf_4 (K29 : Int32 → Mem → Option (Int32 × Mem)) (R : Int32 → Int32 → Mem → Option (Int32 × Mem)) (x2 : Int32) (x3 : Int32) (I : Mem) : Option (Int32 × Mem) :=
  ck (inb x2 4) <| (if x3 < (I 102 (tn x2)) then K29 x2 I else ck (inb x2 4) <| R (x2 + (1 : Int32)) (x3 - (I 102 (tn x2))) I)
def l_X9_schemeOf_4 (K29 : Int32 → Mem → Option (Int32 × Mem)) : Nat → Int32 → Int32 → Mem → Option (Int32 × Mem) := fx (b_X9_schemeOf_4 K29) (fun _ _ _ => none)
def f_X9_schemeOf (x1 : Int32) (I : Mem) : Option (Int32 × Mem) :=
  l_X9_schemeOf_4 (fun (z3 : Int32) I4 => some (z3, I4)) fuel (0 : Int32) x1 I
set_option maxRecDepth 100000 in
theorem tb_X9_schemeOf_4 {G : Gt} (hG : Gok G) (hn : gn G = 104) {K29 : Int32 → Mem → Option (Int32 × Mem)} (hK29 : ∀ (x2 : Int32) (I : Mem), J G (mu_X9_schemeOf G) 29 [none, none, some (.int x2), none] [] I (K29 x2 I)) {R : Int32 → Int32 → Mem → Option (Int32 × Mem)} (hR : ∀ (x2 : Int32) (x3 : Int32) (I : Mem), J G (mu_X9_schemeOf G) 4 [some (.ref 89), none, some (.int x2), some (.int x3)] [] I (R x2 x3 I)) (x2 : Int32) (x3 : Int32) (I : Mem) : J G (mu_X9_schemeOf G) 4 [some (.ref 89), none, some (.int x2), some (.int x3)] [] I (b_X9_schemeOf_4 K29 R x2 x3 I) := by
  unfold b_X9_schemeOf_4
  refine J_iload_n (pc := 4) (x := x3) dX9_schemeOf_4 rfl ?_
  refine J_aload_n (pc := 5) (x := 89) dX9_schemeOf_5 rfl ?_
  refine J_get (pc := 6) (t := 9) (k := 19) (.ref 102) (ok_m hn 89 (by decide) rfl) (by decide) rfl ingX9 (by decide) wd_499 rfl dX9_schemeOf_6 ?_
  refine J_iload_n (pc := 9) (x := x2) dX9_schemeOf_9 rfl ?_
  refine J_ck (fun hc1 => ?_)
  refine J_ild (pc := 10) (t := 42) (k := (tn x2)) (ok_m hn 102 (by decide) rfl) iT_42 (inb_in hc1) rfl dX9_schemeOf_10 ?_
  refine J_icmp_lt (pc := 11) (tgt := 29) dX9_schemeOf_11 (by decide) ?_ ?_
  · refine J_weak (ls' := [none, none, some (.int x2), none]) ⟨rfl, trivial⟩ ?_
    exact hK29 x2 I
  · refine J_iload_n (pc := 14) (x := x3) dX9_schemeOf_14 rfl ?_
    refine J_aload_n (pc := 15) (x := 89) dX9_schemeOf_15 rfl ?_
    refine J_get (pc := 16) (t := 9) (k := 19) (.ref 102) (ok_m hn 89 (by decide) rfl) (by decide) rfl ingX9 (by decide) wd_499 rfl dX9_schemeOf_16 ?_
    refine J_iload_n (pc := 19) (x := x2) dX9_schemeOf_19 rfl ?_
    refine J_ck (fun hc2 => ?_)
    refine J_ild (pc := 20) (t := 42) (k := (tn x2)) (ok_m hn 102 (by decide) rfl) iT_42 (inb_in hc2) rfl dX9_schemeOf_20 ?_
    refine J_isub (pc := 21) dX9_schemeOf_21 ?_
    refine J_istore_n (pc := 22) (ls' := [some (.ref 89), none, some (.int x2), some (.int (x3 - (I 102 (tn x2))))]) dX9_schemeOf_22 (Nat.le_of_ble_eq_true rfl) rfl rfl ?_
    refine J_iinc (pc := 23) (d := (1 : Int32)) (ls' := [some (.ref 89), none, some (.int (x2 + (1 : Int32))), some (.int (x3 - (I 102 (tn x2))))]) dX9_schemeOf_23 (by decide) rfl (Nat.le_of_ble_eq_true rfl) rfl rfl ?_
    refine J_goto (pc := 26) (tgt := 4) dX9_schemeOf_26 (by decide) ?_
    exact hR (x2 + (1 : Int32)) (x3 - (I 102 (tn x2))) I
theorem tl_X9_schemeOf_4 {G : Gt} (hG : Gok G) (hn : gn G = 104) {K29 : Int32 → Mem → Option (Int32 × Mem)} (hK29 : ∀ (x2 : Int32) (I : Mem), J G (mu_X9_schemeOf G) 29 [none, none, some (.int x2), none] [] I (K29 x2 I)) (n : Nat) : ∀ (x2 : Int32) (x3 : Int32) (I : Mem), J G (mu_X9_schemeOf G) 4 [some (.ref 89), none, some (.int x2), some (.int x3)] [] I (l_X9_schemeOf_4 K29 n x2 x3 I) := by
  induction n with
  | zero => intro x2 x3 I; exact J_none
  | succ n ih => intro x2 x3 I; exact tb_X9_schemeOf_4 hG hn hK29 ih x2 x3 I
set_option maxRecDepth 100000 in
theorem c_X9_schemeOf {G : Gt} (hG : Gok G) (hn : gn G = 104) (x1 : Int32) (I : Mem) : Cti G yX9_schemeOf cX9_schemeOf 4 (some .int) 0 0 [.ref 89, .int x1] I (f_X9_schemeOf x1 I) := by
  refine Cti.of (ls := [some (.ref 89), some (.int x1), none, none]) 2 hG (by decide) rfl (Nat.le_of_ble_eq_true rfl) ?_
  unfold f_X9_schemeOf
  refine J_iconst (pc := 0) (v := (0 : Int32)) dX9_schemeOf_0 (by decide) ?_
  refine J_istore_n (pc := 1) (ls' := [some (.ref 89), some (.int x1), some (.int (0 : Int32)), none]) dX9_schemeOf_1 (Nat.le_of_ble_eq_true rfl) rfl rfl ?_
  refine J_iload_n (pc := 2) (x := x1) dX9_schemeOf_2 rfl ?_
  refine J_istore_n (pc := 3) (ls' := [some (.ref 89), some (.int x1), some (.int (0 : Int32)), some (.int x1)]) dX9_schemeOf_3 (Nat.le_of_ble_eq_true rfl) rfl rfl ?_
  refine J_weak (ls' := [some (.ref 89), none, some (.int (0 : Int32)), some (.int x1)]) ⟨rfl, rfl, rfl, trivial⟩ ?_
  refine tl_X9_schemeOf_4 hG hn (fun z3 I4 => ?_) fuel (0 : Int32) x1 I
  · refine J_iload_n (pc := 29) (x := z3) dX9_schemeOf_29 rfl ?_
    exact J_iret (pc := 30) dX9_schemeOf_30
abbrev mu_X9_halfAhead (G : Gt) : Mt (Int32 × Mem) := mi G cX9_halfAhead 4 yX9_halfAhead.cls (some .int) 1 23
def b_X9_halfAhead_4 (K29 : Int32 → Mem → Option (Int32 × Mem)) (R : Int32 → Int32 → Int32 → Mem → Option (Int32 × Mem)) (x1 : Int32) (x2 : Int32) (x3 : Int32) (I : Mem) : Option (Int32 × Mem) :=
  (if x1 ≤ x3 then K29 x2 I else bI (f_X9_schemeOf x3 I) fun r2 I1 => bI (f_X9_pagesOf r2 I1) fun r4 I3 => R x1 (x2 + (r4 / (2 : Int32))) (x3 + (1 : Int32)) I3)
def l_X9_halfAhead_4 (K29 : Int32 → Mem → Option (Int32 × Mem)) : Nat → Int32 → Int32 → Int32 → Mem → Option (Int32 × Mem) := fx (b_X9_halfAhead_4 K29) (fun _ _ _ _ => none)
def f_X9_halfAhead (x1 : Int32) (I : Mem) : Option (Int32 × Mem) :=
  l_X9_halfAhead_4 (fun (z5 : Int32) I6 => some (z5, I6)) fuel x1 (0 : Int32) (0 : Int32) I
set_option maxRecDepth 100000 in
theorem tb_X9_halfAhead_4 {G : Gt} (hG : Gok G) (hn : gn G = 104) {K29 : Int32 → Mem → Option (Int32 × Mem)} (hK29 : ∀ (x2 : Int32) (I : Mem), J G (mu_X9_halfAhead G) 29 [none, none, some (.int x2), none] [] I (K29 x2 I)) {R : Int32 → Int32 → Int32 → Mem → Option (Int32 × Mem)} (hR : ∀ (x1 : Int32) (x2 : Int32) (x3 : Int32) (I : Mem), J G (mu_X9_halfAhead G) 4 [some (.ref 89), some (.int x1), some (.int x2), some (.int x3)] [] I (R x1 x2 x3 I)) (x1 : Int32) (x2 : Int32) (x3 : Int32) (I : Mem) : J G (mu_X9_halfAhead G) 4 [some (.ref 89), some (.int x1), some (.int x2), some (.int x3)] [] I (b_X9_halfAhead_4 K29 R x1 x2 x3 I) := by
  unfold b_X9_halfAhead_4
  refine J_iload_n (pc := 4) (x := x3) dX9_halfAhead_4 rfl ?_
  refine J_iload_n (pc := 5) (x := x1) dX9_halfAhead_5 rfl ?_
  refine J_icmp_ge (pc := 6) (tgt := 29) dX9_halfAhead_6 (by decide) ?_ ?_
  · refine J_weak (ls' := [none, none, some (.int x2), none]) ⟨rfl, trivial⟩ ?_
    exact hK29 x2 I
  · refine J_iload_n (pc := 9) (x := x2) dX9_halfAhead_9 rfl ?_
    refine J_aload_n (pc := 10) (x := 89) dX9_halfAhead_10 rfl ?_
    refine J_aload_n (pc := 11) (x := 89) dX9_halfAhead_11 rfl ?_
    refine J_iload_n (pc := 12) (x := x3) dX9_halfAhead_12 rfl ?_
    refine J_callVi (pc := 13) (t := 9) (as := [.int x3]) (st := [.ref 89, .int x2]) (c_X9_schemeOf hG hn x3 I) (ok_m hn 89 (by decide) rfl) (by decide) rfl (cw_RX9_191 rfl) wd_569 wd_568 rfl ⟨Nat.le_of_ble_eq_true rfl, Nat.le_of_ble_eq_true rfl, Nat.le_of_ble_eq_true rfl, Nat.le_of_ble_eq_true rfl⟩ (Nat.le_of_ble_eq_true rfl) rfl dX9_halfAhead_13 (fun r2 I1 => ?_)
    refine J_callVi (pc := 16) (t := 9) (as := [.int r2]) (st := [.int x2]) (c_X9_pagesOf hG hn r2 I1) (ok_m hn 89 (by decide) rfl) (by decide) rfl (cw_RX9_151 rfl) wd_495 wd_494 rfl ⟨Nat.le_of_ble_eq_true rfl, Nat.le_of_ble_eq_true rfl, Nat.le_of_ble_eq_true rfl, Nat.le_of_ble_eq_true rfl⟩ (Nat.le_of_ble_eq_true rfl) rfl dX9_halfAhead_16 (fun r4 I3 => ?_)
    refine J_iconst (pc := 19) (v := (2 : Int32)) dX9_halfAhead_19 (by decide) ?_
    refine J_idiv (pc := 20) dX9_halfAhead_20 (by decide) ?_
    refine J_iadd (pc := 21) dX9_halfAhead_21 ?_
    refine J_istore_n (pc := 22) (ls' := [some (.ref 89), some (.int x1), some (.int (x2 + (r4 / (2 : Int32)))), some (.int x3)]) dX9_halfAhead_22 (Nat.le_of_ble_eq_true rfl) rfl rfl ?_
    refine J_iinc (pc := 23) (d := (1 : Int32)) (ls' := [some (.ref 89), some (.int x1), some (.int (x2 + (r4 / (2 : Int32)))), some (.int (x3 + (1 : Int32)))]) dX9_halfAhead_23 (by decide) rfl (Nat.le_of_ble_eq_true rfl) rfl rfl ?_
    refine J_goto (pc := 26) (tgt := 4) dX9_halfAhead_26 (by decide) ?_
    exact hR x1 (x2 + (r4 / (2 : Int32))) (x3 + (1 : Int32)) I3
theorem tl_X9_halfAhead_4 {G : Gt} (hG : Gok G) (hn : gn G = 104) {K29 : Int32 → Mem → Option (Int32 × Mem)} (hK29 : ∀ (x2 : Int32) (I : Mem), J G (mu_X9_halfAhead G) 29 [none, none, some (.int x2), none] [] I (K29 x2 I)) (n : Nat) : ∀ (x1 : Int32) (x2 : Int32) (x3 : Int32) (I : Mem), J G (mu_X9_halfAhead G) 4 [some (.ref 89), some (.int x1), some (.int x2), some (.int x3)] [] I (l_X9_halfAhead_4 K29 n x1 x2 x3 I) := by
  induction n with
  | zero => intro x1 x2 x3 I; exact J_none
  | succ n ih => intro x1 x2 x3 I; exact tb_X9_halfAhead_4 hG hn hK29 ih x1 x2 x3 I
set_option maxRecDepth 100000 in
theorem c_X9_halfAhead {G : Gt} (hG : Gok G) (hn : gn G = 104) (x1 : Int32) (I : Mem) : Cti G yX9_halfAhead cX9_halfAhead 4 (some .int) 1 23 [.ref 89, .int x1] I (f_X9_halfAhead x1 I) := by
  refine Cti.of (ls := [some (.ref 89), some (.int x1), none, none]) 2 hG (by decide) rfl (Nat.le_of_ble_eq_true rfl) ?_
  unfold f_X9_halfAhead
  refine J_iconst (pc := 0) (v := (0 : Int32)) dX9_halfAhead_0 (by decide) ?_
  refine J_istore_n (pc := 1) (ls' := [some (.ref 89), some (.int x1), some (.int (0 : Int32)), none]) dX9_halfAhead_1 (Nat.le_of_ble_eq_true rfl) rfl rfl ?_
  refine J_iconst (pc := 2) (v := (0 : Int32)) dX9_halfAhead_2 (by decide) ?_
  refine J_istore_n (pc := 3) (ls' := [some (.ref 89), some (.int x1), some (.int (0 : Int32)), some (.int (0 : Int32))]) dX9_halfAhead_3 (Nat.le_of_ble_eq_true rfl) rfl rfl ?_
  refine tl_X9_halfAhead_4 hG hn (fun z5 I6 => ?_) fuel x1 (0 : Int32) (0 : Int32) I
  · refine J_iload_n (pc := 29) (x := z5) dX9_halfAhead_29 rfl ?_
    exact J_iret (pc := 30) dX9_halfAhead_30
abbrev mu_X9_numberOf (G : Gt) : Mt (Int32 × Mem) := mi G cX9_numberOf 5 yX9_numberOf.cls (some .int) 2 46
def f_X9_numberOf (x1 : Int32) (x2 : Int32) (I : Mem) : Option (Int32 × Mem) :=
  bI (f_X9_schemeOf x1 I) fun r2 I1 => bI (f_X9_pagesOf r2 I1) fun r4 I3 => bI (f_X9_halfAhead x1 I3) fun r6 I5 => (if (I5 91 2) = 0 then some ((((2 : Int32) * r6) + x2), I5) else (if (r4 / (2 : Int32)) < x2 then some (((((I5 89 20) - r6) - ((2 : Int32) * (r4 / (2 : Int32)))) + x2), I5) else some ((r6 + x2), I5)))
set_option maxRecDepth 100000 in
theorem c_X9_numberOf {G : Gt} (hG : Gok G) (hn : gn G = 104) (x1 : Int32) (x2 : Int32) (I : Mem) : Cti G yX9_numberOf cX9_numberOf 5 (some .int) 2 46 [.ref 89, .int x1, .int x2] I (f_X9_numberOf x1 x2 I) := by
  refine Cti.of (ls := [some (.ref 89), some (.int x1), some (.int x2), none, none]) 2 hG (by decide) rfl (Nat.le_of_ble_eq_true rfl) ?_
  unfold f_X9_numberOf
  refine J_aload_n (pc := 0) (x := 89) dX9_numberOf_0 rfl ?_
  refine J_aload_n (pc := 1) (x := 89) dX9_numberOf_1 rfl ?_
  refine J_iload_n (pc := 2) (x := x1) dX9_numberOf_2 rfl ?_
  refine J_callVi (pc := 3) (t := 9) (as := [.int x1]) (st := [.ref 89]) (c_X9_schemeOf hG hn x1 I) (ok_m hn 89 (by decide) rfl) (by decide) rfl (cw_RX9_191 rfl) wd_569 wd_568 rfl ⟨Nat.le_of_ble_eq_true rfl, Nat.le_of_ble_eq_true rfl, Nat.le_of_ble_eq_true rfl, Nat.le_of_ble_eq_true rfl⟩ (Nat.le_of_ble_eq_true rfl) rfl dX9_numberOf_3 (fun r2 I1 => ?_)
  refine J_callVi (pc := 6) (t := 9) (as := [.int r2]) (st := []) (c_X9_pagesOf hG hn r2 I1) (ok_m hn 89 (by decide) rfl) (by decide) rfl (cw_RX9_151 rfl) wd_495 wd_494 rfl ⟨Nat.le_of_ble_eq_true rfl, Nat.le_of_ble_eq_true rfl, Nat.le_of_ble_eq_true rfl, Nat.le_of_ble_eq_true rfl⟩ (Nat.le_of_ble_eq_true rfl) rfl dX9_numberOf_6 (fun r4 I3 => ?_)
  refine J_iconst (pc := 9) (v := (2 : Int32)) dX9_numberOf_9 (by decide) ?_
  refine J_idiv (pc := 10) dX9_numberOf_10 (by decide) ?_
  refine J_istore_n (pc := 11) (ls' := [some (.ref 89), some (.int x1), some (.int x2), some (.int (r4 / (2 : Int32))), none]) dX9_numberOf_11 (Nat.le_of_ble_eq_true rfl) rfl rfl ?_
  refine J_aload_n (pc := 12) (x := 89) dX9_numberOf_12 rfl ?_
  refine J_iload_n (pc := 13) (x := x1) dX9_numberOf_13 rfl ?_
  refine J_callVi (pc := 14) (t := 9) (as := [.int x1]) (st := []) (c_X9_halfAhead hG hn x1 I3) (ok_m hn 89 (by decide) rfl) (by decide) rfl (cw_RX9_194 rfl) wd_573 wd_572 rfl ⟨Nat.le_of_ble_eq_true rfl, Nat.le_of_ble_eq_true rfl, Nat.le_of_ble_eq_true rfl, Nat.le_of_ble_eq_true rfl⟩ (Nat.le_of_ble_eq_true rfl) rfl dX9_numberOf_14 (fun r6 I5 => ?_)
  refine J_istore (pc := 17) (ls' := [some (.ref 89), some (.int x1), some (.int x2), some (.int (r4 / (2 : Int32))), some (.int r6)]) dX9_numberOf_17 (Nat.le_of_ble_eq_true rfl) rfl rfl ?_
  refine J_aload_n (pc := 19) (x := 89) dX9_numberOf_19 rfl ?_
  refine J_get (pc := 20) (t := 9) (k := 2) (.ref 91) (ok_m hn 89 (by decide) rfl) (by decide) rfl ingX9 (by decide) wd_467 rfl dX9_numberOf_20 ?_
  refine J_iconst (pc := 23) (v := (2 : Int32)) dX9_numberOf_23 (by decide) ?_
  refine J_ild (pc := 24) (t := 31) (k := 2) (ok_m hn 91 (by decide) rfl) iT_31 (inb_in (by decide)) (by decide) dX9_numberOf_24 ?_
  refine J_if_ne (pc := 25) (tgt := 35) dX9_numberOf_25 (by decide) ?_ ?_
  · refine J_iconst (pc := 28) (v := (2 : Int32)) dX9_numberOf_28 (by decide) ?_
    refine J_iload (pc := 29) (x := r6) dX9_numberOf_29 rfl ?_
    refine J_imul (pc := 31) dX9_numberOf_31 ?_
    refine J_iload_n (pc := 32) (x := x2) dX9_numberOf_32 rfl ?_
    refine J_iadd (pc := 33) dX9_numberOf_33 ?_
    exact J_iret (pc := 34) dX9_numberOf_34
  · refine J_iload_n (pc := 35) (x := x2) dX9_numberOf_35 rfl ?_
    refine J_iload_n (pc := 36) (x := (r4 / (2 : Int32))) dX9_numberOf_36 rfl ?_
    refine J_icmp_gt (pc := 37) (tgt := 47) dX9_numberOf_37 (by decide) ?_ ?_
    · refine J_aload_n (pc := 47) (x := 89) dX9_numberOf_47 rfl ?_
      refine J_get (pc := 48) (t := 9) (k := 20) (.int (I5 89 20)) (ok_m hn 89 (by decide) rfl) (by decide) rfl ingX9 (by decide) wd_498 rfl dX9_numberOf_48 ?_
      refine J_iload (pc := 51) (x := r6) dX9_numberOf_51 rfl ?_
      refine J_isub (pc := 53) dX9_numberOf_53 ?_
      refine J_iconst (pc := 54) (v := (2 : Int32)) dX9_numberOf_54 (by decide) ?_
      refine J_iload_n (pc := 55) (x := (r4 / (2 : Int32))) dX9_numberOf_55 rfl ?_
      refine J_imul (pc := 56) dX9_numberOf_56 ?_
      refine J_isub (pc := 57) dX9_numberOf_57 ?_
      refine J_iload_n (pc := 58) (x := x2) dX9_numberOf_58 rfl ?_
      refine J_iadd (pc := 59) dX9_numberOf_59 ?_
      exact J_iret (pc := 60) dX9_numberOf_60
    · refine J_iload (pc := 40) (x := r6) dX9_numberOf_40 rfl ?_
      refine J_iload_n (pc := 42) (x := x2) dX9_numberOf_42 rfl ?_
      refine J_iadd (pc := 43) dX9_numberOf_43 ?_
      refine J_goto (pc := 44) (tgt := 60) dX9_numberOf_44 (by decide) ?_
      exact J_iret (pc := 60) dX9_numberOf_60
abbrev mu_X9_seek (G : Gt) : Mt Mem := mv G cX9_seek 2 yX9_seek.cls 3 70
def b_X9_seek_10 (K73 : Mem → Option Mem) (R : Int32 → Mem → Option Mem) (x1 : Int32) (I : Mem) : Option Mem :=
  bI (f_X9_numberOf (I 89 21) (I 89 22) I) fun r2 I1 => (if r2 = x1 then K73 I1 else bI (f_X9_schemeOf ((stm I1 89 22 ((I1 89 22) + (1 : Int32))) 89 21) (stm I1 89 22 ((I1 89 22) + (1 : Int32)))) fun r4 I3 => bI (f_X9_pagesOf r4 I3) fun r6 I5 => (if ((stm I1 89 22 ((I1 89 22) + (1 : Int32))) 89 22) ≤ r6 then R x1 I5 else R x1 (stm (stm I5 89 21 ((I5 89 21) + (1 : Int32))) 89 22 (1 : Int32))))
def l_X9_seek_10 (K73 : Mem → Option Mem) : Nat → Int32 → Mem → Option Mem := fx (b_X9_seek_10 K73) (fun _ _ => none)
def f_X9_seek (x1 : Int32) (I : Mem) : Option Mem :=
  l_X9_seek_10 (fun I7 => some I7) fuel x1 (stm (stm I 89 21 (0 : Int32)) 89 22 (1 : Int32))
set_option maxRecDepth 100000 in
theorem tb_X9_seek_10 {G : Gt} (hG : Gok G) (hn : gn G = 104) {K73 : Mem → Option Mem} (hK73 : ∀ (I : Mem), J G (mu_X9_seek G) 73 [none, none] [] I (K73 I)) {R : Int32 → Mem → Option Mem} (hR : ∀ (x1 : Int32) (I : Mem), J G (mu_X9_seek G) 10 [some (.ref 89), some (.int x1)] [] I (R x1 I)) (x1 : Int32) (I : Mem) : J G (mu_X9_seek G) 10 [some (.ref 89), some (.int x1)] [] I (b_X9_seek_10 K73 R x1 I) := by
  unfold b_X9_seek_10
  refine J_aload_n (pc := 10) (x := 89) dX9_seek_10 rfl ?_
  refine J_aload_n (pc := 11) (x := 89) dX9_seek_11 rfl ?_
  refine J_get (pc := 12) (t := 9) (k := 21) (.int (I 89 21)) (ok_m hn 89 (by decide) rfl) (by decide) rfl ingX9 (by decide) wd_566 rfl dX9_seek_12 ?_
  refine J_aload_n (pc := 15) (x := 89) dX9_seek_15 rfl ?_
  refine J_get (pc := 16) (t := 9) (k := 22) (.int (I 89 22)) (ok_m hn 89 (by decide) rfl) (by decide) rfl ingX9 (by decide) wd_567 rfl dX9_seek_16 ?_
  refine J_callVi (pc := 19) (t := 9) (as := [.int (I 89 21), .int (I 89 22)]) (st := []) (c_X9_numberOf hG hn (I 89 21) (I 89 22) I) (ok_m hn 89 (by decide) rfl) (by decide) rfl (cw_RX9_203 rfl) wd_577 wd_576 rfl ⟨Nat.le_of_ble_eq_true rfl, Nat.le_of_ble_eq_true rfl, Nat.le_of_ble_eq_true rfl, Nat.le_of_ble_eq_true rfl⟩ (Nat.le_of_ble_eq_true rfl) rfl dX9_seek_19 (fun r2 I1 => ?_)
  refine J_iload_n (pc := 22) (x := x1) dX9_seek_22 rfl ?_
  refine J_icmp_eq (pc := 23) (tgt := 73) dX9_seek_23 (by decide) ?_ ?_
  · refine J_weak (ls' := [none, none]) trivial ?_
    exact hK73 I1
  · refine J_aload_n (pc := 26) (x := 89) dX9_seek_26 rfl ?_
    refine J_dupR (pc := 27) dX9_seek_27 ?_
    refine J_get (pc := 28) (t := 9) (k := 22) (.int (I1 89 22)) (ok_m hn 89 (by decide) rfl) (by decide) rfl ingX9 (by decide) wd_567 rfl dX9_seek_28 ?_
    refine J_iconst (pc := 31) (v := (1 : Int32)) dX9_seek_31 (by decide) ?_
    refine J_iadd (pc := 32) dX9_seek_32 ?_
    refine J_put (pc := 33) (t := 9) (k := 22) (ok_m hn 89 (by decide) rfl) (by decide) rfl ingX9 tyX9 tyX9_ok nmX9 (by decide) wd_567 rfl pfI (Nat.le_of_ble_eq_true rfl) rfl dX9_seek_33 ?_
    refine J_aload_n (pc := 36) (x := 89) dX9_seek_36 rfl ?_
    refine J_get (pc := 37) (t := 9) (k := 22) (.int ((stm I1 89 22 ((I1 89 22) + (1 : Int32))) 89 22)) (ok_m hn 89 (by decide) rfl) (by decide) rfl ingX9 (by decide) wd_567 rfl dX9_seek_37 ?_
    refine J_aload_n (pc := 40) (x := 89) dX9_seek_40 rfl ?_
    refine J_aload_n (pc := 41) (x := 89) dX9_seek_41 rfl ?_
    refine J_aload_n (pc := 42) (x := 89) dX9_seek_42 rfl ?_
    refine J_get (pc := 43) (t := 9) (k := 21) (.int ((stm I1 89 22 ((I1 89 22) + (1 : Int32))) 89 21)) (ok_m hn 89 (by decide) rfl) (by decide) rfl ingX9 (by decide) wd_566 rfl dX9_seek_43 ?_
    refine J_callVi (pc := 46) (t := 9) (as := [.int ((stm I1 89 22 ((I1 89 22) + (1 : Int32))) 89 21)]) (st := [.ref 89, .int ((stm I1 89 22 ((I1 89 22) + (1 : Int32))) 89 22)]) (c_X9_schemeOf hG hn ((stm I1 89 22 ((I1 89 22) + (1 : Int32))) 89 21) (stm I1 89 22 ((I1 89 22) + (1 : Int32)))) (ok_m hn 89 (by decide) rfl) (by decide) rfl (cw_RX9_191 rfl) wd_569 wd_568 rfl ⟨Nat.le_of_ble_eq_true rfl, Nat.le_of_ble_eq_true rfl, Nat.le_of_ble_eq_true rfl, Nat.le_of_ble_eq_true rfl⟩ (Nat.le_of_ble_eq_true rfl) rfl dX9_seek_46 (fun r4 I3 => ?_)
    refine J_callVi (pc := 49) (t := 9) (as := [.int r4]) (st := [.int ((stm I1 89 22 ((I1 89 22) + (1 : Int32))) 89 22)]) (c_X9_pagesOf hG hn r4 I3) (ok_m hn 89 (by decide) rfl) (by decide) rfl (cw_RX9_151 rfl) wd_495 wd_494 rfl ⟨Nat.le_of_ble_eq_true rfl, Nat.le_of_ble_eq_true rfl, Nat.le_of_ble_eq_true rfl, Nat.le_of_ble_eq_true rfl⟩ (Nat.le_of_ble_eq_true rfl) rfl dX9_seek_49 (fun r6 I5 => ?_)
    refine J_icmp_le (pc := 52) (tgt := 10) dX9_seek_52 (by decide) ?_ ?_
    · exact hR x1 I5
    · refine J_aload_n (pc := 55) (x := 89) dX9_seek_55 rfl ?_
      refine J_dupR (pc := 56) dX9_seek_56 ?_
      refine J_get (pc := 57) (t := 9) (k := 21) (.int (I5 89 21)) (ok_m hn 89 (by decide) rfl) (by decide) rfl ingX9 (by decide) wd_566 rfl dX9_seek_57 ?_
      refine J_iconst (pc := 60) (v := (1 : Int32)) dX9_seek_60 (by decide) ?_
      refine J_iadd (pc := 61) dX9_seek_61 ?_
      refine J_put (pc := 62) (t := 9) (k := 21) (ok_m hn 89 (by decide) rfl) (by decide) rfl ingX9 tyX9 tyX9_ok nmX9 (by decide) wd_566 rfl pfI (Nat.le_of_ble_eq_true rfl) rfl dX9_seek_62 ?_
      refine J_aload_n (pc := 65) (x := 89) dX9_seek_65 rfl ?_
      refine J_iconst (pc := 66) (v := (1 : Int32)) dX9_seek_66 (by decide) ?_
      refine J_put (pc := 67) (t := 9) (k := 22) (ok_m hn 89 (by decide) rfl) (by decide) rfl ingX9 tyX9 tyX9_ok nmX9 (by decide) wd_567 rfl pfI (Nat.le_of_ble_eq_true rfl) rfl dX9_seek_67 ?_
      refine J_goto (pc := 70) (tgt := 10) dX9_seek_70 (by decide) ?_
      exact hR x1 (stm (stm I5 89 21 ((I5 89 21) + (1 : Int32))) 89 22 (1 : Int32))
theorem tl_X9_seek_10 {G : Gt} (hG : Gok G) (hn : gn G = 104) {K73 : Mem → Option Mem} (hK73 : ∀ (I : Mem), J G (mu_X9_seek G) 73 [none, none] [] I (K73 I)) (n : Nat) : ∀ (x1 : Int32) (I : Mem), J G (mu_X9_seek G) 10 [some (.ref 89), some (.int x1)] [] I (l_X9_seek_10 K73 n x1 I) := by
  induction n with
  | zero => intro x1 I; exact J_none
  | succ n ih => intro x1 I; exact tb_X9_seek_10 hG hn hK73 ih x1 I
set_option maxRecDepth 100000 in
theorem c_X9_seek {G : Gt} (hG : Gok G) (hn : gn G = 104) (x1 : Int32) (I : Mem) : Ctv G yX9_seek cX9_seek 2 3 70 [.ref 89, .int x1] I (f_X9_seek x1 I) := by
  refine Ctv.of (ls := [some (.ref 89), some (.int x1)]) 0 hG (by decide) rfl (Nat.le_of_ble_eq_true rfl) ?_
  unfold f_X9_seek
  refine J_aload_n (pc := 0) (x := 89) dX9_seek_0 rfl ?_
  refine J_iconst (pc := 1) (v := (0 : Int32)) dX9_seek_1 (by decide) ?_
  refine J_put (pc := 2) (t := 9) (k := 21) (ok_m hn 89 (by decide) rfl) (by decide) rfl ingX9 tyX9 tyX9_ok nmX9 (by decide) wd_566 rfl pfI (Nat.le_of_ble_eq_true rfl) rfl dX9_seek_2 ?_
  refine J_aload_n (pc := 5) (x := 89) dX9_seek_5 rfl ?_
  refine J_iconst (pc := 6) (v := (1 : Int32)) dX9_seek_6 (by decide) ?_
  refine J_put (pc := 7) (t := 9) (k := 22) (ok_m hn 89 (by decide) rfl) (by decide) rfl ingX9 tyX9 tyX9_ok nmX9 (by decide) wd_567 rfl pfI (Nat.le_of_ble_eq_true rfl) rfl dX9_seek_7 ?_
  refine tl_X9_seek_10 hG hn (fun I7 => ?_) fuel x1 (stm (stm I 89 21 (0 : Int32)) 89 22 (1 : Int32))
  · exact J_vret (pc := 73) dX9_seek_73
abbrev mu_X9_outOf (G : Gt) : Mt (Int32 × Mem) := mi G cX9_outOf 6 yX9_outOf.cls (some .int) 2 46
def j_X9_outOf_38 (x1 : Int32) (y0 : Int32) (I : Mem) : Option (Int32 × Mem) :=
  (if (I 91 2) = 0 then some (y0, I) else bI (f_X9_halfAhead x1 I) fun r6 I5 => some ((y0 + (r6 / (2 : Int32))), I5))
def f_X9_outOf (x1 : Int32) (x2 : Int32) (I : Mem) : Option (Int32 × Mem) :=
  bI (f_X9_schemeOf x1 I) fun r2 I1 => bI (f_X9_pagesOf r2 I1) fun r4 I3 => (if (r4 / (2 : Int32)) ≤ ((2 : Int32) * ((x2 - (1 : Int32)) / (2 : Int32))) then j_X9_outOf_38 x1 (((r4 / (2 : Int32)) - (1 : Int32)) - ((x2 - (1 : Int32)) / (2 : Int32))) I3 else j_X9_outOf_38 x1 ((x2 - (1 : Int32)) / (2 : Int32)) I3)
set_option maxRecDepth 100000 in
theorem tj_X9_outOf_38 {G : Gt} (hG : Gok G) (hn : gn G = 104) (x1 : Int32) (y0 : Int32) (I : Mem) : J G (mu_X9_outOf G) 38 [some (.ref 89), some (.int x1), none, none, none, none] [.int y0] I (j_X9_outOf_38 x1 y0 I) := by
  unfold j_X9_outOf_38
  refine J_istore (pc := 38) (ls' := [some (.ref 89), some (.int x1), none, none, none, some (.int y0)]) dX9_outOf_38 (Nat.le_of_ble_eq_true rfl) rfl rfl ?_
  refine J_aload_n (pc := 40) (x := 89) dX9_outOf_40 rfl ?_
  refine J_get (pc := 41) (t := 9) (k := 2) (.ref 91) (ok_m hn 89 (by decide) rfl) (by decide) rfl ingX9 (by decide) wd_467 rfl dX9_outOf_41 ?_
  refine J_iconst (pc := 44) (v := (2 : Int32)) dX9_outOf_44 (by decide) ?_
  refine J_ild (pc := 45) (t := 31) (k := 2) (ok_m hn 91 (by decide) rfl) iT_31 (inb_in (by decide)) (by decide) dX9_outOf_45 ?_
  refine J_if_ne (pc := 46) (tgt := 54) dX9_outOf_46 (by decide) ?_ ?_
  · refine J_iload (pc := 49) (x := y0) dX9_outOf_49 rfl ?_
    refine J_goto (pc := 51) (tgt := 64) dX9_outOf_51 (by decide) ?_
    exact J_iret (pc := 64) dX9_outOf_64
  · refine J_iload (pc := 54) (x := y0) dX9_outOf_54 rfl ?_
    refine J_aload_n (pc := 56) (x := 89) dX9_outOf_56 rfl ?_
    refine J_iload_n (pc := 57) (x := x1) dX9_outOf_57 rfl ?_
    refine J_callVi (pc := 58) (t := 9) (as := [.int x1]) (st := [.int y0]) (c_X9_halfAhead hG hn x1 I) (ok_m hn 89 (by decide) rfl) (by decide) rfl (cw_RX9_194 rfl) wd_573 wd_572 rfl ⟨Nat.le_of_ble_eq_true rfl, Nat.le_of_ble_eq_true rfl, Nat.le_of_ble_eq_true rfl, Nat.le_of_ble_eq_true rfl⟩ (Nat.le_of_ble_eq_true rfl) rfl dX9_outOf_58 (fun r6 I5 => ?_)
    refine J_iconst (pc := 61) (v := (2 : Int32)) dX9_outOf_61 (by decide) ?_
    refine J_idiv (pc := 62) dX9_outOf_62 (by decide) ?_
    refine J_iadd (pc := 63) dX9_outOf_63 ?_
    exact J_iret (pc := 64) dX9_outOf_64
set_option maxRecDepth 100000 in
theorem c_X9_outOf {G : Gt} (hG : Gok G) (hn : gn G = 104) (x1 : Int32) (x2 : Int32) (I : Mem) : Cti G yX9_outOf cX9_outOf 6 (some .int) 2 46 [.ref 89, .int x1, .int x2] I (f_X9_outOf x1 x2 I) := by
  refine Cti.of (ls := [some (.ref 89), some (.int x1), some (.int x2), none, none, none]) 3 hG (by decide) rfl (Nat.le_of_ble_eq_true rfl) ?_
  unfold f_X9_outOf
  refine J_aload_n (pc := 0) (x := 89) dX9_outOf_0 rfl ?_
  refine J_aload_n (pc := 1) (x := 89) dX9_outOf_1 rfl ?_
  refine J_iload_n (pc := 2) (x := x1) dX9_outOf_2 rfl ?_
  refine J_callVi (pc := 3) (t := 9) (as := [.int x1]) (st := [.ref 89]) (c_X9_schemeOf hG hn x1 I) (ok_m hn 89 (by decide) rfl) (by decide) rfl (cw_RX9_191 rfl) wd_569 wd_568 rfl ⟨Nat.le_of_ble_eq_true rfl, Nat.le_of_ble_eq_true rfl, Nat.le_of_ble_eq_true rfl, Nat.le_of_ble_eq_true rfl⟩ (Nat.le_of_ble_eq_true rfl) rfl dX9_outOf_3 (fun r2 I1 => ?_)
  refine J_callVi (pc := 6) (t := 9) (as := [.int r2]) (st := []) (c_X9_pagesOf hG hn r2 I1) (ok_m hn 89 (by decide) rfl) (by decide) rfl (cw_RX9_151 rfl) wd_495 wd_494 rfl ⟨Nat.le_of_ble_eq_true rfl, Nat.le_of_ble_eq_true rfl, Nat.le_of_ble_eq_true rfl, Nat.le_of_ble_eq_true rfl⟩ (Nat.le_of_ble_eq_true rfl) rfl dX9_outOf_6 (fun r4 I3 => ?_)
  refine J_iconst (pc := 9) (v := (2 : Int32)) dX9_outOf_9 (by decide) ?_
  refine J_idiv (pc := 10) dX9_outOf_10 (by decide) ?_
  refine J_istore_n (pc := 11) (ls' := [some (.ref 89), some (.int x1), some (.int x2), some (.int (r4 / (2 : Int32))), none, none]) dX9_outOf_11 (Nat.le_of_ble_eq_true rfl) rfl rfl ?_
  refine J_iload_n (pc := 12) (x := x2) dX9_outOf_12 rfl ?_
  refine J_iconst (pc := 13) (v := (1 : Int32)) dX9_outOf_13 (by decide) ?_
  refine J_isub (pc := 14) dX9_outOf_14 ?_
  refine J_iconst (pc := 15) (v := (2 : Int32)) dX9_outOf_15 (by decide) ?_
  refine J_idiv (pc := 16) dX9_outOf_16 (by decide) ?_
  refine J_istore (pc := 17) (ls' := [some (.ref 89), some (.int x1), some (.int x2), some (.int (r4 / (2 : Int32))), some (.int ((x2 - (1 : Int32)) / (2 : Int32))), none]) dX9_outOf_17 (Nat.le_of_ble_eq_true rfl) rfl rfl ?_
  refine J_iconst (pc := 19) (v := (2 : Int32)) dX9_outOf_19 (by decide) ?_
  refine J_iload (pc := 20) (x := ((x2 - (1 : Int32)) / (2 : Int32))) dX9_outOf_20 rfl ?_
  refine J_imul (pc := 22) dX9_outOf_22 ?_
  refine J_iload_n (pc := 23) (x := (r4 / (2 : Int32))) dX9_outOf_23 rfl ?_
  refine J_icmp_ge (pc := 24) (tgt := 32) dX9_outOf_24 (by decide) ?_ ?_
  · refine J_iload_n (pc := 32) (x := (r4 / (2 : Int32))) dX9_outOf_32 rfl ?_
    refine J_iconst (pc := 33) (v := (1 : Int32)) dX9_outOf_33 (by decide) ?_
    refine J_isub (pc := 34) dX9_outOf_34 ?_
    refine J_iload (pc := 35) (x := ((x2 - (1 : Int32)) / (2 : Int32))) dX9_outOf_35 rfl ?_
    refine J_isub (pc := 37) dX9_outOf_37 ?_
    refine J_weak (ls' := [some (.ref 89), some (.int x1), none, none, none, none]) ⟨rfl, rfl, trivial⟩ ?_
    exact tj_X9_outOf_38 hG hn x1 (((r4 / (2 : Int32)) - (1 : Int32)) - ((x2 - (1 : Int32)) / (2 : Int32))) I3
  · refine J_iload (pc := 27) (x := ((x2 - (1 : Int32)) / (2 : Int32))) dX9_outOf_27 rfl ?_
    refine J_goto (pc := 29) (tgt := 38) dX9_outOf_29 (by decide) ?_
    refine J_weak (ls' := [some (.ref 89), some (.int x1), none, none, none, none]) ⟨rfl, rfl, trivial⟩ ?_
    exact tj_X9_outOf_38 hG hn x1 ((x2 - (1 : Int32)) / (2 : Int32)) I3
abbrev mu_X9_movedOf (G : Gt) : Mt (Int32 × Mem) := mi G cX9_movedOf 5 yX9_movedOf.cls (some .int) 3 71
def j_X9_movedOf_42 (x1 : Int32) (x2 : Int32) (y0 : Int32) (I : Mem) : Option (Int32 × Mem) :=
  bI (f_X9_schemeOf y0 I) fun r2 I1 => bI (f_X9_pagesOf r2 I1) fun r4 I3 => bI (f_X9_outOf y0 (r4 / (2 : Int32)) I3) fun r6 I5 => bI (f_X9_outOf x1 x2 I5) fun r8 I7 => some ((((I5 91 1) * r8) - (((I7 91 1) * r6) / (2 : Int32))), I7)
def f_X9_movedOf (x1 : Int32) (x2 : Int32) (I : Mem) : Option (Int32 × Mem) :=
  (if (I 91 2) = 0 then j_X9_movedOf_42 x1 x2 x1 I else j_X9_movedOf_42 x1 x2 (((((I 102 0) + (I 102 1)) + (I 102 2)) + (I 102 3)) - (1 : Int32)) I)
set_option maxRecDepth 100000 in
theorem tj_X9_movedOf_42 {G : Gt} (hG : Gok G) (hn : gn G = 104) (x1 : Int32) (x2 : Int32) (y0 : Int32) (I : Mem) : J G (mu_X9_movedOf G) 42 [some (.ref 89), some (.int x1), some (.int x2), none, none] [.int y0] I (j_X9_movedOf_42 x1 x2 y0 I) := by
  unfold j_X9_movedOf_42
  refine J_istore_n (pc := 42) (ls' := [some (.ref 89), some (.int x1), some (.int x2), some (.int y0), none]) dX9_movedOf_42 (Nat.le_of_ble_eq_true rfl) rfl rfl ?_
  refine J_aload_n (pc := 43) (x := 89) dX9_movedOf_43 rfl ?_
  refine J_iload_n (pc := 44) (x := y0) dX9_movedOf_44 rfl ?_
  refine J_aload_n (pc := 45) (x := 89) dX9_movedOf_45 rfl ?_
  refine J_aload_n (pc := 46) (x := 89) dX9_movedOf_46 rfl ?_
  refine J_iload_n (pc := 47) (x := y0) dX9_movedOf_47 rfl ?_
  refine J_callVi (pc := 48) (t := 9) (as := [.int y0]) (st := [.ref 89, .int y0, .ref 89]) (c_X9_schemeOf hG hn y0 I) (ok_m hn 89 (by decide) rfl) (by decide) rfl (cw_RX9_191 rfl) wd_569 wd_568 rfl ⟨Nat.le_of_ble_eq_true rfl, Nat.le_of_ble_eq_true rfl, Nat.le_of_ble_eq_true rfl, Nat.le_of_ble_eq_true rfl⟩ (Nat.le_of_ble_eq_true rfl) rfl dX9_movedOf_48 (fun r2 I1 => ?_)
  refine J_callVi (pc := 51) (t := 9) (as := [.int r2]) (st := [.int y0, .ref 89]) (c_X9_pagesOf hG hn r2 I1) (ok_m hn 89 (by decide) rfl) (by decide) rfl (cw_RX9_151 rfl) wd_495 wd_494 rfl ⟨Nat.le_of_ble_eq_true rfl, Nat.le_of_ble_eq_true rfl, Nat.le_of_ble_eq_true rfl, Nat.le_of_ble_eq_true rfl⟩ (Nat.le_of_ble_eq_true rfl) rfl dX9_movedOf_51 (fun r4 I3 => ?_)
  refine J_iconst (pc := 54) (v := (2 : Int32)) dX9_movedOf_54 (by decide) ?_
  refine J_idiv (pc := 55) dX9_movedOf_55 (by decide) ?_
  refine J_callVi (pc := 56) (t := 9) (as := [.int y0, .int (r4 / (2 : Int32))]) (st := []) (c_X9_outOf hG hn y0 (r4 / (2 : Int32)) I3) (ok_m hn 89 (by decide) rfl) (by decide) rfl (cw_RX9_206 rfl) wd_585 wd_584 rfl ⟨Nat.le_of_ble_eq_true rfl, Nat.le_of_ble_eq_true rfl, Nat.le_of_ble_eq_true rfl, Nat.le_of_ble_eq_true rfl⟩ (Nat.le_of_ble_eq_true rfl) rfl dX9_movedOf_56 (fun r6 I5 => ?_)
  refine J_istore (pc := 59) (ls' := [some (.ref 89), some (.int x1), some (.int x2), some (.int y0), some (.int r6)]) dX9_movedOf_59 (Nat.le_of_ble_eq_true rfl) rfl rfl ?_
  refine J_aload_n (pc := 61) (x := 89) dX9_movedOf_61 rfl ?_
  refine J_get (pc := 62) (t := 9) (k := 2) (.ref 91) (ok_m hn 89 (by decide) rfl) (by decide) rfl ingX9 (by decide) wd_467 rfl dX9_movedOf_62 ?_
  refine J_iconst (pc := 65) (v := (1 : Int32)) dX9_movedOf_65 (by decide) ?_
  refine J_ild (pc := 66) (t := 31) (k := 1) (ok_m hn 91 (by decide) rfl) iT_31 (inb_in (by decide)) (by decide) dX9_movedOf_66 ?_
  refine J_aload_n (pc := 67) (x := 89) dX9_movedOf_67 rfl ?_
  refine J_iload_n (pc := 68) (x := x1) dX9_movedOf_68 rfl ?_
  refine J_iload_n (pc := 69) (x := x2) dX9_movedOf_69 rfl ?_
  refine J_callVi (pc := 70) (t := 9) (as := [.int x1, .int x2]) (st := [.int (I5 91 1)]) (c_X9_outOf hG hn x1 x2 I5) (ok_m hn 89 (by decide) rfl) (by decide) rfl (cw_RX9_206 rfl) wd_585 wd_584 rfl ⟨Nat.le_of_ble_eq_true rfl, Nat.le_of_ble_eq_true rfl, Nat.le_of_ble_eq_true rfl, Nat.le_of_ble_eq_true rfl⟩ (Nat.le_of_ble_eq_true rfl) rfl dX9_movedOf_70 (fun r8 I7 => ?_)
  refine J_imul (pc := 73) dX9_movedOf_73 ?_
  refine J_aload_n (pc := 74) (x := 89) dX9_movedOf_74 rfl ?_
  refine J_get (pc := 75) (t := 9) (k := 2) (.ref 91) (ok_m hn 89 (by decide) rfl) (by decide) rfl ingX9 (by decide) wd_467 rfl dX9_movedOf_75 ?_
  refine J_iconst (pc := 78) (v := (1 : Int32)) dX9_movedOf_78 (by decide) ?_
  refine J_ild (pc := 79) (t := 31) (k := 1) (ok_m hn 91 (by decide) rfl) iT_31 (inb_in (by decide)) (by decide) dX9_movedOf_79 ?_
  refine J_iload (pc := 80) (x := r6) dX9_movedOf_80 rfl ?_
  refine J_imul (pc := 82) dX9_movedOf_82 ?_
  refine J_iconst (pc := 83) (v := (2 : Int32)) dX9_movedOf_83 (by decide) ?_
  refine J_idiv (pc := 84) dX9_movedOf_84 (by decide) ?_
  refine J_isub (pc := 85) dX9_movedOf_85 ?_
  exact J_iret (pc := 86) dX9_movedOf_86
set_option maxRecDepth 100000 in
theorem c_X9_movedOf {G : Gt} (hG : Gok G) (hn : gn G = 104) (x1 : Int32) (x2 : Int32) (I : Mem) : Cti G yX9_movedOf cX9_movedOf 5 (some .int) 3 71 [.ref 89, .int x1, .int x2] I (f_X9_movedOf x1 x2 I) := by
  refine Cti.of (ls := [some (.ref 89), some (.int x1), some (.int x2), none, none]) 2 hG (by decide) rfl (Nat.le_of_ble_eq_true rfl) ?_
  unfold f_X9_movedOf
  refine J_aload_n (pc := 0) (x := 89) dX9_movedOf_0 rfl ?_
  refine J_get (pc := 1) (t := 9) (k := 2) (.ref 91) (ok_m hn 89 (by decide) rfl) (by decide) rfl ingX9 (by decide) wd_467 rfl dX9_movedOf_1 ?_
  refine J_iconst (pc := 4) (v := (2 : Int32)) dX9_movedOf_4 (by decide) ?_
  refine J_ild (pc := 5) (t := 31) (k := 2) (ok_m hn 91 (by decide) rfl) iT_31 (inb_in (by decide)) (by decide) dX9_movedOf_5 ?_
  refine J_if_ne (pc := 6) (tgt := 13) dX9_movedOf_6 (by decide) ?_ ?_
  · refine J_iload_n (pc := 9) (x := x1) dX9_movedOf_9 rfl ?_
    refine J_goto (pc := 10) (tgt := 42) dX9_movedOf_10 (by decide) ?_
    exact tj_X9_movedOf_42 hG hn x1 x2 x1 I
  · refine J_aload_n (pc := 13) (x := 89) dX9_movedOf_13 rfl ?_
    refine J_get (pc := 14) (t := 9) (k := 19) (.ref 102) (ok_m hn 89 (by decide) rfl) (by decide) rfl ingX9 (by decide) wd_499 rfl dX9_movedOf_14 ?_
    refine J_iconst (pc := 17) (v := (0 : Int32)) dX9_movedOf_17 (by decide) ?_
    refine J_ild (pc := 18) (t := 42) (k := 0) (ok_m hn 102 (by decide) rfl) iT_42 (inb_in (by decide)) (by decide) dX9_movedOf_18 ?_
    refine J_aload_n (pc := 19) (x := 89) dX9_movedOf_19 rfl ?_
    refine J_get (pc := 20) (t := 9) (k := 19) (.ref 102) (ok_m hn 89 (by decide) rfl) (by decide) rfl ingX9 (by decide) wd_499 rfl dX9_movedOf_20 ?_
    refine J_iconst (pc := 23) (v := (1 : Int32)) dX9_movedOf_23 (by decide) ?_
    refine J_ild (pc := 24) (t := 42) (k := 1) (ok_m hn 102 (by decide) rfl) iT_42 (inb_in (by decide)) (by decide) dX9_movedOf_24 ?_
    refine J_iadd (pc := 25) dX9_movedOf_25 ?_
    refine J_aload_n (pc := 26) (x := 89) dX9_movedOf_26 rfl ?_
    refine J_get (pc := 27) (t := 9) (k := 19) (.ref 102) (ok_m hn 89 (by decide) rfl) (by decide) rfl ingX9 (by decide) wd_499 rfl dX9_movedOf_27 ?_
    refine J_iconst (pc := 30) (v := (2 : Int32)) dX9_movedOf_30 (by decide) ?_
    refine J_ild (pc := 31) (t := 42) (k := 2) (ok_m hn 102 (by decide) rfl) iT_42 (inb_in (by decide)) (by decide) dX9_movedOf_31 ?_
    refine J_iadd (pc := 32) dX9_movedOf_32 ?_
    refine J_aload_n (pc := 33) (x := 89) dX9_movedOf_33 rfl ?_
    refine J_get (pc := 34) (t := 9) (k := 19) (.ref 102) (ok_m hn 89 (by decide) rfl) (by decide) rfl ingX9 (by decide) wd_499 rfl dX9_movedOf_34 ?_
    refine J_iconst (pc := 37) (v := (3 : Int32)) dX9_movedOf_37 (by decide) ?_
    refine J_ild (pc := 38) (t := 42) (k := 3) (ok_m hn 102 (by decide) rfl) iT_42 (inb_in (by decide)) (by decide) dX9_movedOf_38 ?_
    refine J_iadd (pc := 39) dX9_movedOf_39 ?_
    refine J_iconst (pc := 40) (v := (1 : Int32)) dX9_movedOf_40 (by decide) ?_
    refine J_isub (pc := 41) dX9_movedOf_41 ?_
    exact tj_X9_movedOf_42 hG hn x1 x2 (((((I 102 0) + (I 102 1)) + (I 102 2)) + (I 102 3)) - (1 : Int32)) I
abbrev mu_X9_book (G : Gt) : Mt (Int32 × Mem) := mi G cX9_book 5 yX9_book.cls (some .int) 4 102
def f_X9_book (x1 : Int32) (x2 : Int32) (I : Mem) : Option (Int32 × Mem) :=
  bI (f_X9_sheetMany I) fun r2 I1 => bI (f_X9_in ((x1).toInt64) (1 : Int64) (((I1 89 20)).toInt64) I1) fun r4 I3 => (if r4 = 0 then some ((-1 : Int32), I3) else bI (f_X9_in ((x2).toInt64) (0 : Int64) (8 : Int64) I3) fun r6 I5 => (if r6 = 0 then some ((-1 : Int32), I5) else bV (f_X9_seek x1 I5) fun I7 => bI (f_X9_schemeOf (I7 89 21) I7) fun r9 I8 => bV (f_X9_lays r9 I8) fun I10 => (if x2 = (0 : Int32) then some ((I7 89 21), I10) else (if x2 = (1 : Int32) then some ((I10 89 22), I10) else (if x2 = (2 : Int32) then ck (inb ((I7 89 22) - (1 : Int32)) 32) <| some ((I10 98 (tn ((I7 89 22) - (1 : Int32)))), I10) else (if x2 = (3 : Int32) then ck (inb ((I7 89 22) - (1 : Int32)) 32) <| ck (!((I10 89 16) == 0)) <| some (((I10 97 (tn ((I7 89 22) - (1 : Int32)))) - (I10 97 (tn ((I7 89 22) - (1 : Int32)))) / (I10 89 16) * (I10 89 16)), I10) else (if x2 = (4 : Int32) then ck (inb ((I7 89 22) - (1 : Int32)) 32) <| ck (!((I10 89 16) == 0)) <| some (((I10 97 (tn ((I7 89 22) - (1 : Int32)))) / (I10 89 16)), I10) else (if x2 = (5 : Int32) then ck (inb ((I7 89 22) - (1 : Int32)) 32) <| some ((I10 99 (tn ((I7 89 22) - (1 : Int32)))), I10) else (if x2 = (6 : Int32) then bI (f_X9_outOf (I7 89 21) (I10 89 22) I10) fun r25 I24 => some (r25, I24) else (if x2 = (7 : Int32) then bI (f_X9_movedOf (I7 89 21) (I10 89 22) I10) fun r28 I27 => some ((r28 + (100000 : Int32)), I27) else (if (I10 91 0) < x1 then some ((0 : Int32), I10) else ck (inb ((28 : Int32) + (I7 89 21)) 132) <| some ((I10 91 (tn ((28 : Int32) + (I7 89 21)))), I10))))))))))))
set_option maxRecDepth 100000 in
theorem c_X9_book {G : Gt} (hG : Gok G) (hn : gn G = 104) (x1 : Int32) (x2 : Int32) (I : Mem) : Cti G yX9_book cX9_book 5 (some .int) 4 102 [.ref 89, .int x1, .int x2] I (f_X9_book x1 x2 I) := by
  refine Cti.of (ls := [some (.ref 89), some (.int x1), some (.int x2), none, none]) 2 hG (by decide) rfl (Nat.le_of_ble_eq_true rfl) ?_
  unfold f_X9_book
  refine J_aload_n (pc := 0) (x := 89) dX9_book_0 rfl ?_
  refine J_callVi (pc := 1) (t := 9) (as := []) (st := []) (c_X9_sheetMany hG hn I) (ok_m hn 89 (by decide) rfl) (by decide) rfl (cw_RX9_188 rfl) wd_505 wd_504 rfl ⟨Nat.le_of_ble_eq_true rfl, Nat.le_of_ble_eq_true rfl, Nat.le_of_ble_eq_true rfl, Nat.le_of_ble_eq_true rfl⟩ (Nat.le_of_ble_eq_true rfl) rfl dX9_book_1 (fun r2 I1 => ?_)
  refine J_popI (pc := 4) dX9_book_4 ?_
  refine J_iload_n (pc := 5) (x := x1) dX9_book_5 rfl ?_
  refine J_i2l (pc := 6) dX9_book_6 ?_
  refine J_lconst (pc := 7) (v := (1 : Int64)) dX9_book_7 (by decide) ?_
  refine J_aload_n (pc := 8) (x := 89) dX9_book_8 rfl ?_
  refine J_get (pc := 9) (t := 9) (k := 20) (.int (I1 89 20)) (ok_m hn 89 (by decide) rfl) (by decide) rfl ingX9 (by decide) wd_498 rfl dX9_book_9 ?_
  refine J_i2l (pc := 12) dX9_book_12 ?_
  refine J_callSi (pc := 13) (as := [.long ((x1).toInt64), .long (1 : Int64), .long (((I1 89 20)).toInt64)]) (st := []) (c_X9_in hG hn ((x1).toInt64) (1 : Int64) (((I1 89 20)).toInt64) I1) (cw_RX9_57 rfl) wd_425 rfl ⟨Nat.le_of_ble_eq_true rfl, Nat.le_of_ble_eq_true rfl, Nat.le_of_ble_eq_true rfl, Nat.le_of_ble_eq_true rfl⟩ (Nat.le_of_ble_eq_true rfl) rfl dX9_book_13 (fun r4 I3 => ?_)
  refine J_if_eq (pc := 16) (tgt := 31) dX9_book_16 (by decide) ?_ ?_
  · refine J_iconst (pc := 31) (v := (-1 : Int32)) dX9_book_31 (by decide) ?_
    exact J_iret (pc := 32) dX9_book_32
  · refine J_iload_n (pc := 19) (x := x2) dX9_book_19 rfl ?_
    refine J_i2l (pc := 20) dX9_book_20 ?_
    refine J_lconst (pc := 21) (v := (0 : Int64)) dX9_book_21 (by decide) ?_
    refine J_ldc2 (pc := 22) (v := (8 : Int64)) wd_565 dX9_book_22 ?_
    refine J_callSi (pc := 25) (as := [.long ((x2).toInt64), .long (0 : Int64), .long (8 : Int64)]) (st := []) (c_X9_in hG hn ((x2).toInt64) (0 : Int64) (8 : Int64) I3) (cw_RX9_57 rfl) wd_425 rfl ⟨Nat.le_of_ble_eq_true rfl, Nat.le_of_ble_eq_true rfl, Nat.le_of_ble_eq_true rfl, Nat.le_of_ble_eq_true rfl⟩ (Nat.le_of_ble_eq_true rfl) rfl dX9_book_25 (fun r6 I5 => ?_)
    refine J_if_ne (pc := 28) (tgt := 33) dX9_book_28 (by decide) ?_ ?_
    · refine J_iconst (pc := 31) (v := (-1 : Int32)) dX9_book_31 (by decide) ?_
      exact J_iret (pc := 32) dX9_book_32
    · refine J_aload_n (pc := 33) (x := 89) dX9_book_33 rfl ?_
      refine J_iload_n (pc := 34) (x := x1) dX9_book_34 rfl ?_
      refine J_callVv (pc := 35) (t := 9) (as := [.int x1]) (st := []) (c_X9_seek hG hn x1 I5) (ok_m hn 89 (by decide) rfl) (by decide) rfl (cw_RX9_211 rfl) wd_581 wd_580 rfl ⟨Nat.le_of_ble_eq_true rfl, Nat.le_of_ble_eq_true rfl, Nat.le_of_ble_eq_true rfl, Nat.le_of_ble_eq_true rfl⟩ (Nat.le_of_ble_eq_true rfl) rfl dX9_book_35 (fun I7 => ?_)
      refine J_aload_n (pc := 38) (x := 89) dX9_book_38 rfl ?_
      refine J_get (pc := 39) (t := 9) (k := 22) (.int (I7 89 22)) (ok_m hn 89 (by decide) rfl) (by decide) rfl ingX9 (by decide) wd_567 rfl dX9_book_39 ?_
      refine J_iconst (pc := 42) (v := (1 : Int32)) dX9_book_42 (by decide) ?_
      refine J_isub (pc := 43) dX9_book_43 ?_
      refine J_istore_n (pc := 44) (ls' := [some (.ref 89), some (.int x1), some (.int x2), some (.int ((I7 89 22) - (1 : Int32))), none]) dX9_book_44 (Nat.le_of_ble_eq_true rfl) rfl rfl ?_
      refine J_aload_n (pc := 45) (x := 89) dX9_book_45 rfl ?_
      refine J_get (pc := 46) (t := 9) (k := 21) (.int (I7 89 21)) (ok_m hn 89 (by decide) rfl) (by decide) rfl ingX9 (by decide) wd_566 rfl dX9_book_46 ?_
      refine J_istore (pc := 49) (ls' := [some (.ref 89), some (.int x1), some (.int x2), some (.int ((I7 89 22) - (1 : Int32))), some (.int (I7 89 21))]) dX9_book_49 (Nat.le_of_ble_eq_true rfl) rfl rfl ?_
      refine J_aload_n (pc := 51) (x := 89) dX9_book_51 rfl ?_
      refine J_aload_n (pc := 52) (x := 89) dX9_book_52 rfl ?_
      refine J_iload (pc := 53) (x := (I7 89 21)) dX9_book_53 rfl ?_
      refine J_callVi (pc := 55) (t := 9) (as := [.int (I7 89 21)]) (st := [.ref 89]) (c_X9_schemeOf hG hn (I7 89 21) I7) (ok_m hn 89 (by decide) rfl) (by decide) rfl (cw_RX9_191 rfl) wd_569 wd_568 rfl ⟨Nat.le_of_ble_eq_true rfl, Nat.le_of_ble_eq_true rfl, Nat.le_of_ble_eq_true rfl, Nat.le_of_ble_eq_true rfl⟩ (Nat.le_of_ble_eq_true rfl) rfl dX9_book_55 (fun r9 I8 => ?_)
      refine J_callVv (pc := 58) (t := 9) (as := [.int r9]) (st := []) (c_X9_lays hG hn r9 I8) (ok_m hn 89 (by decide) rfl) (by decide) rfl (cw_RX9_160 rfl) wd_541 wd_540 rfl ⟨Nat.le_of_ble_eq_true rfl, Nat.le_of_ble_eq_true rfl, Nat.le_of_ble_eq_true rfl, Nat.le_of_ble_eq_true rfl⟩ (Nat.le_of_ble_eq_true rfl) rfl dX9_book_58 (fun I10 => ?_)
      refine J_iload_n (pc := 61) (x := x2) dX9_book_61 rfl ?_
      refine J_ite (fun hq11 => ?_) (fun hq11 => ?_)
      · refine J_tblIn (pc := 62) (off := 46) (tgt := 108) dX9_book_62 (by rw [hq11]; decide) (by rw [hq11]; decide) (by rw [hq11]; decide) (by decide) ?_
        refine J_iload (pc := 108) (x := (I7 89 21)) dX9_book_108 rfl ?_
        exact J_iret (pc := 110) dX9_book_110
      refine J_ite (fun hq12 => ?_) (fun hq12 => ?_)
      · refine J_tblIn (pc := 62) (off := 49) (tgt := 111) dX9_book_62 (by rw [hq12]; decide) (by rw [hq12]; decide) (by rw [hq12]; decide) (by decide) ?_
        refine J_aload_n (pc := 111) (x := 89) dX9_book_111 rfl ?_
        refine J_get (pc := 112) (t := 9) (k := 22) (.int (I10 89 22)) (ok_m hn 89 (by decide) rfl) (by decide) rfl ingX9 (by decide) wd_567 rfl dX9_book_112 ?_
        exact J_iret (pc := 115) dX9_book_115
      refine J_ite (fun hq13 => ?_) (fun hq13 => ?_)
      · refine J_tblIn (pc := 62) (off := 54) (tgt := 116) dX9_book_62 (by rw [hq13]; decide) (by rw [hq13]; decide) (by rw [hq13]; decide) (by decide) ?_
        refine J_aload_n (pc := 116) (x := 89) dX9_book_116 rfl ?_
        refine J_get (pc := 117) (t := 9) (k := 14) (.ref 98) (ok_m hn 89 (by decide) rfl) (by decide) rfl ingX9 (by decide) wd_534 rfl dX9_book_117 ?_
        refine J_iload_n (pc := 120) (x := ((I7 89 22) - (1 : Int32))) dX9_book_120 rfl ?_
        refine J_ck (fun hc14 => ?_)
        refine J_ild (pc := 121) (t := 38) (k := (tn ((I7 89 22) - (1 : Int32)))) (ok_m hn 98 (by decide) rfl) iT_38 (inb_in hc14) rfl dX9_book_121 ?_
        exact J_iret (pc := 122) dX9_book_122
      refine J_ite (fun hq15 => ?_) (fun hq15 => ?_)
      · refine J_tblIn (pc := 62) (off := 61) (tgt := 123) dX9_book_62 (by rw [hq15]; decide) (by rw [hq15]; decide) (by rw [hq15]; decide) (by decide) ?_
        refine J_aload_n (pc := 123) (x := 89) dX9_book_123 rfl ?_
        refine J_get (pc := 124) (t := 9) (k := 13) (.ref 97) (ok_m hn 89 (by decide) rfl) (by decide) rfl ingX9 (by decide) wd_533 rfl dX9_book_124 ?_
        refine J_iload_n (pc := 127) (x := ((I7 89 22) - (1 : Int32))) dX9_book_127 rfl ?_
        refine J_ck (fun hc16 => ?_)
        refine J_ild (pc := 128) (t := 37) (k := (tn ((I7 89 22) - (1 : Int32)))) (ok_m hn 97 (by decide) rfl) iT_37 (inb_in hc16) rfl dX9_book_128 ?_
        refine J_aload_n (pc := 129) (x := 89) dX9_book_129 rfl ?_
        refine J_get (pc := 130) (t := 9) (k := 16) (.int (I10 89 16)) (ok_m hn 89 (by decide) rfl) (by decide) rfl ingX9 (by decide) wd_526 rfl dX9_book_130 ?_
        refine J_ck (fun hc17 => ?_)
        refine J_irem (pc := 133) dX9_book_133 (nz hc17) ?_
        exact J_iret (pc := 134) dX9_book_134
      refine J_ite (fun hq18 => ?_) (fun hq18 => ?_)
      · refine J_tblIn (pc := 62) (off := 73) (tgt := 135) dX9_book_62 (by rw [hq18]; decide) (by rw [hq18]; decide) (by rw [hq18]; decide) (by decide) ?_
        refine J_aload_n (pc := 135) (x := 89) dX9_book_135 rfl ?_
        refine J_get (pc := 136) (t := 9) (k := 13) (.ref 97) (ok_m hn 89 (by decide) rfl) (by decide) rfl ingX9 (by decide) wd_533 rfl dX9_book_136 ?_
        refine J_iload_n (pc := 139) (x := ((I7 89 22) - (1 : Int32))) dX9_book_139 rfl ?_
        refine J_ck (fun hc19 => ?_)
        refine J_ild (pc := 140) (t := 37) (k := (tn ((I7 89 22) - (1 : Int32)))) (ok_m hn 97 (by decide) rfl) iT_37 (inb_in hc19) rfl dX9_book_140 ?_
        refine J_aload_n (pc := 141) (x := 89) dX9_book_141 rfl ?_
        refine J_get (pc := 142) (t := 9) (k := 16) (.int (I10 89 16)) (ok_m hn 89 (by decide) rfl) (by decide) rfl ingX9 (by decide) wd_526 rfl dX9_book_142 ?_
        refine J_ck (fun hc20 => ?_)
        refine J_idiv (pc := 145) dX9_book_145 (nz hc20) ?_
        exact J_iret (pc := 146) dX9_book_146
      refine J_ite (fun hq21 => ?_) (fun hq21 => ?_)
      · refine J_tblIn (pc := 62) (off := 85) (tgt := 147) dX9_book_62 (by rw [hq21]; decide) (by rw [hq21]; decide) (by rw [hq21]; decide) (by decide) ?_
        refine J_aload_n (pc := 147) (x := 89) dX9_book_147 rfl ?_
        refine J_get (pc := 148) (t := 9) (k := 15) (.ref 99) (ok_m hn 89 (by decide) rfl) (by decide) rfl ingX9 (by decide) wd_535 rfl dX9_book_148 ?_
        refine J_iload_n (pc := 151) (x := ((I7 89 22) - (1 : Int32))) dX9_book_151 rfl ?_
        refine J_ck (fun hc22 => ?_)
        refine J_ild (pc := 152) (t := 39) (k := (tn ((I7 89 22) - (1 : Int32)))) (ok_m hn 99 (by decide) rfl) iT_39 (inb_in hc22) rfl dX9_book_152 ?_
        exact J_iret (pc := 153) dX9_book_153
      refine J_ite (fun hq23 => ?_) (fun hq23 => ?_)
      · refine J_tblIn (pc := 62) (off := 92) (tgt := 154) dX9_book_62 (by rw [hq23]; decide) (by rw [hq23]; decide) (by rw [hq23]; decide) (by decide) ?_
        refine J_aload_n (pc := 154) (x := 89) dX9_book_154 rfl ?_
        refine J_iload (pc := 155) (x := (I7 89 21)) dX9_book_155 rfl ?_
        refine J_aload_n (pc := 157) (x := 89) dX9_book_157 rfl ?_
        refine J_get (pc := 158) (t := 9) (k := 22) (.int (I10 89 22)) (ok_m hn 89 (by decide) rfl) (by decide) rfl ingX9 (by decide) wd_567 rfl dX9_book_158 ?_
        refine J_callVi (pc := 161) (t := 9) (as := [.int (I7 89 21), .int (I10 89 22)]) (st := []) (c_X9_outOf hG hn (I7 89 21) (I10 89 22) I10) (ok_m hn 89 (by decide) rfl) (by decide) rfl (cw_RX9_206 rfl) wd_585 wd_584 rfl ⟨Nat.le_of_ble_eq_true rfl, Nat.le_of_ble_eq_true rfl, Nat.le_of_ble_eq_true rfl, Nat.le_of_ble_eq_true rfl⟩ (Nat.le_of_ble_eq_true rfl) rfl dX9_book_161 (fun r25 I24 => ?_)
        exact J_iret (pc := 164) dX9_book_164
      refine J_ite (fun hq26 => ?_) (fun hq26 => ?_)
      · refine J_tblIn (pc := 62) (off := 103) (tgt := 165) dX9_book_62 (by rw [hq26]; decide) (by rw [hq26]; decide) (by rw [hq26]; decide) (by decide) ?_
        refine J_aload_n (pc := 165) (x := 89) dX9_book_165 rfl ?_
        refine J_iload (pc := 166) (x := (I7 89 21)) dX9_book_166 rfl ?_
        refine J_aload_n (pc := 168) (x := 89) dX9_book_168 rfl ?_
        refine J_get (pc := 169) (t := 9) (k := 22) (.int (I10 89 22)) (ok_m hn 89 (by decide) rfl) (by decide) rfl ingX9 (by decide) wd_567 rfl dX9_book_169 ?_
        refine J_callVi (pc := 172) (t := 9) (as := [.int (I7 89 21), .int (I10 89 22)]) (st := []) (c_X9_movedOf hG hn (I7 89 21) (I10 89 22) I10) (ok_m hn 89 (by decide) rfl) (by decide) rfl (cw_RX9_214 rfl) wd_589 wd_588 rfl ⟨Nat.le_of_ble_eq_true rfl, Nat.le_of_ble_eq_true rfl, Nat.le_of_ble_eq_true rfl, Nat.le_of_ble_eq_true rfl⟩ (Nat.le_of_ble_eq_true rfl) rfl dX9_book_172 (fun r28 I27 => ?_)
        refine J_ldc (pc := 175) (v := (100000 : Int32)) wd_592 dX9_book_175 ?_
        refine J_iadd (pc := 177) dX9_book_177 ?_
        exact J_iret (pc := 178) dX9_book_178
      refine J_tblOut (pc := 62) (tgt := 179) dX9_book_62 (by have e0 := ne_int hq11 (show ((0 : Int32)).toInt = 0 by decide); have e1 := ne_int hq12 (show ((1 : Int32)).toInt = 1 by decide); have e2 := ne_int hq13 (show ((2 : Int32)).toInt = 2 by decide); have e3 := ne_int hq15 (show ((3 : Int32)).toInt = 3 by decide); have e4 := ne_int hq18 (show ((4 : Int32)).toInt = 4 by decide); have e5 := ne_int hq21 (show ((5 : Int32)).toInt = 5 by decide); have e6 := ne_int hq23 (show ((6 : Int32)).toInt = 6 by decide); have e7 := ne_int hq26 (show ((7 : Int32)).toInt = 7 by decide); omega) (by decide) ?_
      refine J_iload_n (pc := 179) (x := x1) dX9_book_179 rfl ?_
      refine J_aload_n (pc := 180) (x := 89) dX9_book_180 rfl ?_
      refine J_get (pc := 181) (t := 9) (k := 2) (.ref 91) (ok_m hn 89 (by decide) rfl) (by decide) rfl ingX9 (by decide) wd_467 rfl dX9_book_181 ?_
      refine J_iconst (pc := 184) (v := (0 : Int32)) dX9_book_184 (by decide) ?_
      refine J_ild (pc := 185) (t := 31) (k := 0) (ok_m hn 91 (by decide) rfl) iT_31 (inb_in (by decide)) (by decide) dX9_book_185 ?_
      refine J_icmp_gt (pc := 186) (tgt := 202) dX9_book_186 (by decide) ?_ ?_
      · refine J_iconst (pc := 202) (v := (0 : Int32)) dX9_book_202 (by decide) ?_
        exact J_iret (pc := 203) dX9_book_203
      · refine J_aload_n (pc := 189) (x := 89) dX9_book_189 rfl ?_
        refine J_get (pc := 190) (t := 9) (k := 2) (.ref 91) (ok_m hn 89 (by decide) rfl) (by decide) rfl ingX9 (by decide) wd_467 rfl dX9_book_190 ?_
        refine J_bipush (pc := 193) (v := (28 : Int32)) dX9_book_193 (by decide) ?_
        refine J_iload (pc := 195) (x := (I7 89 21)) dX9_book_195 rfl ?_
        refine J_iadd (pc := 197) dX9_book_197 ?_
        refine J_ck (fun hc29 => ?_)
        refine J_ild (pc := 198) (t := 31) (k := (tn ((28 : Int32) + (I7 89 21)))) (ok_m hn 91 (by decide) rfl) iT_31 (inb_in hc29) rfl dX9_book_198 ?_
        refine J_goto (pc := 199) (tgt := 203) dX9_book_199 (by decide) ?_
        exact J_iret (pc := 203) dX9_book_203
abbrev mu_X9_number (G : Gt) : Mt (Int32 × Mem) := mi G cX9_number 3 yX9_number.cls (some .int) 4 88
def f_X9_number (x1 : Int32) (x2 : Int32) (I : Mem) : Option (Int32 × Mem) :=
  bI (f_X9_isSheet x1 I) fun r2 I1 => (if r2 = 0 then some ((-1 : Int32), I1) else bI (f_X9_schemeOf x1 I1) fun r4 I3 => bI (f_X9_pagesOf r4 I3) fun r6 I5 => bI (f_X9_in ((x2).toInt64) (1 : Int64) ((r6).toInt64) I5) fun r8 I7 => (if r8 = 0 then some ((-1 : Int32), I7) else bI (f_X9_numberOf x1 x2 I7) fun r10 I9 => some (r10, I9)))
set_option maxRecDepth 100000 in
theorem c_X9_number {G : Gt} (hG : Gok G) (hn : gn G = 104) (x1 : Int32) (x2 : Int32) (I : Mem) : Cti G yX9_number cX9_number 3 (some .int) 4 88 [.ref 89, .int x1, .int x2] I (f_X9_number x1 x2 I) := by
  refine Cti.of (ls := [some (.ref 89), some (.int x1), some (.int x2)]) 0 hG (by decide) rfl (Nat.le_of_ble_eq_true rfl) ?_
  unfold f_X9_number
  refine J_aload_n (pc := 0) (x := 89) dX9_number_0 rfl ?_
  refine J_iload_n (pc := 1) (x := x1) dX9_number_1 rfl ?_
  refine J_callVi (pc := 2) (t := 9) (as := [.int x1]) (st := []) (c_X9_isSheet hG hn x1 I) (ok_m hn 89 (by decide) rfl) (by decide) rfl (cw_RX9_218 rfl) wd_509 wd_508 rfl ⟨Nat.le_of_ble_eq_true rfl, Nat.le_of_ble_eq_true rfl, Nat.le_of_ble_eq_true rfl, Nat.le_of_ble_eq_true rfl⟩ (Nat.le_of_ble_eq_true rfl) rfl dX9_number_2 (fun r2 I1 => ?_)
  refine J_if_eq (pc := 5) (tgt := 27) dX9_number_5 (by decide) ?_ ?_
  · refine J_iconst (pc := 27) (v := (-1 : Int32)) dX9_number_27 (by decide) ?_
    exact J_iret (pc := 28) dX9_number_28
  · refine J_iload_n (pc := 8) (x := x2) dX9_number_8 rfl ?_
    refine J_i2l (pc := 9) dX9_number_9 ?_
    refine J_lconst (pc := 10) (v := (1 : Int64)) dX9_number_10 (by decide) ?_
    refine J_aload_n (pc := 11) (x := 89) dX9_number_11 rfl ?_
    refine J_aload_n (pc := 12) (x := 89) dX9_number_12 rfl ?_
    refine J_iload_n (pc := 13) (x := x1) dX9_number_13 rfl ?_
    refine J_callVi (pc := 14) (t := 9) (as := [.int x1]) (st := [.ref 89, .long (1 : Int64), .long ((x2).toInt64)]) (c_X9_schemeOf hG hn x1 I1) (ok_m hn 89 (by decide) rfl) (by decide) rfl (cw_RX9_191 rfl) wd_569 wd_568 rfl ⟨Nat.le_of_ble_eq_true rfl, Nat.le_of_ble_eq_true rfl, Nat.le_of_ble_eq_true rfl, Nat.le_of_ble_eq_true rfl⟩ (Nat.le_of_ble_eq_true rfl) rfl dX9_number_14 (fun r4 I3 => ?_)
    refine J_callVi (pc := 17) (t := 9) (as := [.int r4]) (st := [.long (1 : Int64), .long ((x2).toInt64)]) (c_X9_pagesOf hG hn r4 I3) (ok_m hn 89 (by decide) rfl) (by decide) rfl (cw_RX9_151 rfl) wd_495 wd_494 rfl ⟨Nat.le_of_ble_eq_true rfl, Nat.le_of_ble_eq_true rfl, Nat.le_of_ble_eq_true rfl, Nat.le_of_ble_eq_true rfl⟩ (Nat.le_of_ble_eq_true rfl) rfl dX9_number_17 (fun r6 I5 => ?_)
    refine J_i2l (pc := 20) dX9_number_20 ?_
    refine J_callSi (pc := 21) (as := [.long ((x2).toInt64), .long (1 : Int64), .long ((r6).toInt64)]) (st := []) (c_X9_in hG hn ((x2).toInt64) (1 : Int64) ((r6).toInt64) I5) (cw_RX9_57 rfl) wd_425 rfl ⟨Nat.le_of_ble_eq_true rfl, Nat.le_of_ble_eq_true rfl, Nat.le_of_ble_eq_true rfl, Nat.le_of_ble_eq_true rfl⟩ (Nat.le_of_ble_eq_true rfl) rfl dX9_number_21 (fun r8 I7 => ?_)
    refine J_if_ne (pc := 24) (tgt := 29) dX9_number_24 (by decide) ?_ ?_
    · refine J_iconst (pc := 27) (v := (-1 : Int32)) dX9_number_27 (by decide) ?_
      exact J_iret (pc := 28) dX9_number_28
    · refine J_aload_n (pc := 29) (x := 89) dX9_number_29 rfl ?_
      refine J_iload_n (pc := 30) (x := x1) dX9_number_30 rfl ?_
      refine J_iload_n (pc := 31) (x := x2) dX9_number_31 rfl ?_
      refine J_callVi (pc := 32) (t := 9) (as := [.int x1, .int x2]) (st := []) (c_X9_numberOf hG hn x1 x2 I7) (ok_m hn 89 (by decide) rfl) (by decide) rfl (cw_RX9_203 rfl) wd_577 wd_576 rfl ⟨Nat.le_of_ble_eq_true rfl, Nat.le_of_ble_eq_true rfl, Nat.le_of_ble_eq_true rfl, Nat.le_of_ble_eq_true rfl⟩ (Nat.le_of_ble_eq_true rfl) rfl dX9_number_32 (fun r10 I9 => ?_)
      exact J_iret (pc := 35) dX9_number_35
abbrev mu_X9_sheet (G : Gt) : Mt (Int32 × Mem) := mi G cX9_sheet 9 yX9_sheet.cls (some .int) 4 88
def j_X9_sheet_95 (R : Int32 → Int32 → Int32 → Int32 → Int32 → Int32 → Int32 → Mem → Option (Int32 × Mem)) (x1 : Int32) (x2 : Int32) (x3 : Int32) (x4 : Int32) (x6 : Int32) (x7 : Int32) (x8 : Int32) (y0 : Int32) (I : Mem) : Option (Int32 × Mem) :=
  (if x8 ≤ (I 91 0) then R x1 x2 x3 x4 y0 (x6 + (0 : Int32)) (x7 + (1 : Int32)) I else R x1 x2 x3 x4 y0 (x6 + (1 : Int32)) (x7 + (1 : Int32)) I)
def b_X9_sheet_50 (K124 : Int32 → Int32 → Int32 → Int32 → Int32 → Mem → Option (Int32 × Mem)) (R : Int32 → Int32 → Int32 → Int32 → Int32 → Int32 → Int32 → Mem → Option (Int32 × Mem)) (x1 : Int32) (x2 : Int32) (x3 : Int32) (x4 : Int32) (x5 : Int32) (x6 : Int32) (x7 : Int32) (I : Mem) : Option (Int32 × Mem) :=
  (if x3 < x7 then K124 x1 x2 x4 x5 x6 I else bI (f_X9_numberOf x1 x7 I) fun r12 I11 => (if x4 ≤ r12 then (if r12 ≤ x5 then j_X9_sheet_95 R x1 x2 x3 x4 x6 x7 r12 x5 I11 else j_X9_sheet_95 R x1 x2 x3 x4 x6 x7 r12 r12 I11) else (if r12 ≤ x5 then j_X9_sheet_95 R x1 x2 x3 r12 x6 x7 r12 x5 I11 else j_X9_sheet_95 R x1 x2 x3 r12 x6 x7 r12 r12 I11)))
def l_X9_sheet_50 (K124 : Int32 → Int32 → Int32 → Int32 → Int32 → Mem → Option (Int32 × Mem)) : Nat → Int32 → Int32 → Int32 → Int32 → Int32 → Int32 → Int32 → Mem → Option (Int32 × Mem) := fx (b_X9_sheet_50 K124) (fun _ _ _ _ _ _ _ _ => none)
def f_X9_sheet (x1 : Int32) (x2 : Int32) (I : Mem) : Option (Int32 × Mem) :=
  bI (f_X9_isSheet x1 I) fun r2 I1 => (if r2 = 0 then some ((-1 : Int32), I1) else bI (f_X9_in ((x2).toInt64) (0 : Int64) (4 : Int64) I1) fun r4 I3 => (if r4 = 0 then some ((-1 : Int32), I3) else bI (f_X9_schemeOf x1 I3) fun r6 I5 => bI (f_X9_pagesOf r6 I5) fun r8 I7 => bI (f_X9_numberOf x1 (1 : Int32) I7) fun r10 I9 => l_X9_sheet_50 (fun (z13 : Int32) (z14 : Int32) (z15 : Int32) (z16 : Int32) (z17 : Int32) I18 => (if z14 = 0 then bI (f_X9_schemeOf z13 I18) fun r20 I19 => some (r20, I19) else (if z14 = (1 : Int32) then ck (inb ((28 : Int32) + z13) 132) <| some ((I18 91 (tn ((28 : Int32) + z13))), I18) else (if z14 = (2 : Int32) then some (z15, I18) else (if z14 = (3 : Int32) then some (z16, I18) else some (z17, I18)))))) fuel x1 x2 r8 r10 r10 (0 : Int32) (1 : Int32) I9))
set_option maxRecDepth 100000 in
theorem tj_X9_sheet_95 {G : Gt} (hG : Gok G) (hn : gn G = 104) {R : Int32 → Int32 → Int32 → Int32 → Int32 → Int32 → Int32 → Mem → Option (Int32 × Mem)} (hR : ∀ (x1 : Int32) (x2 : Int32) (x3 : Int32) (x4 : Int32) (x5 : Int32) (x6 : Int32) (x7 : Int32) (I : Mem), J G (mu_X9_sheet G) 50 [some (.ref 89), some (.int x1), some (.int x2), some (.int x3), some (.int x4), some (.int x5), some (.int x6), some (.int x7), none] [] I (R x1 x2 x3 x4 x5 x6 x7 I)) (x1 : Int32) (x2 : Int32) (x3 : Int32) (x4 : Int32) (x6 : Int32) (x7 : Int32) (x8 : Int32) (y0 : Int32) (I : Mem) : J G (mu_X9_sheet G) 95 [some (.ref 89), some (.int x1), some (.int x2), some (.int x3), some (.int x4), none, some (.int x6), some (.int x7), some (.int x8)] [.int y0] I (j_X9_sheet_95 R x1 x2 x3 x4 x6 x7 x8 y0 I) := by
  unfold j_X9_sheet_95
  refine J_istore (pc := 95) (ls' := [some (.ref 89), some (.int x1), some (.int x2), some (.int x3), some (.int x4), some (.int y0), some (.int x6), some (.int x7), some (.int x8)]) dX9_sheet_95 (Nat.le_of_ble_eq_true rfl) rfl rfl ?_
  refine J_iload (pc := 97) (x := x6) dX9_sheet_97 rfl ?_
  refine J_iload (pc := 99) (x := x8) dX9_sheet_99 rfl ?_
  refine J_aload_n (pc := 101) (x := 89) dX9_sheet_101 rfl ?_
  refine J_get (pc := 102) (t := 9) (k := 2) (.ref 91) (ok_m hn 89 (by decide) rfl) (by decide) rfl ingX9 (by decide) wd_467 rfl dX9_sheet_102 ?_
  refine J_iconst (pc := 105) (v := (0 : Int32)) dX9_sheet_105 (by decide) ?_
  refine J_ild (pc := 106) (t := 31) (k := 0) (ok_m hn 91 (by decide) rfl) iT_31 (inb_in (by decide)) (by decide) dX9_sheet_106 ?_
  refine J_icmp_le (pc := 107) (tgt := 114) dX9_sheet_107 (by decide) ?_ ?_
  · refine J_iconst (pc := 114) (v := (0 : Int32)) dX9_sheet_114 (by decide) ?_
    refine J_iadd (pc := 115) dX9_sheet_115 ?_
    refine J_istore (pc := 116) (ls' := [some (.ref 89), some (.int x1), some (.int x2), some (.int x3), some (.int x4), some (.int y0), some (.int (x6 + (0 : Int32))), some (.int x7), some (.int x8)]) dX9_sheet_116 (Nat.le_of_ble_eq_true rfl) rfl rfl ?_
    refine J_iinc (pc := 118) (d := (1 : Int32)) (ls' := [some (.ref 89), some (.int x1), some (.int x2), some (.int x3), some (.int x4), some (.int y0), some (.int (x6 + (0 : Int32))), some (.int (x7 + (1 : Int32))), some (.int x8)]) dX9_sheet_118 (by decide) rfl (Nat.le_of_ble_eq_true rfl) rfl rfl ?_
    refine J_goto (pc := 121) (tgt := 50) dX9_sheet_121 (by decide) ?_
    refine J_weak (ls' := [some (.ref 89), some (.int x1), some (.int x2), some (.int x3), some (.int x4), some (.int y0), some (.int (x6 + (0 : Int32))), some (.int (x7 + (1 : Int32))), none]) ⟨rfl, rfl, rfl, rfl, rfl, rfl, rfl, rfl, trivial⟩ ?_
    exact hR x1 x2 x3 x4 y0 (x6 + (0 : Int32)) (x7 + (1 : Int32)) I
  · refine J_iconst (pc := 110) (v := (1 : Int32)) dX9_sheet_110 (by decide) ?_
    refine J_goto (pc := 111) (tgt := 115) dX9_sheet_111 (by decide) ?_
    refine J_iadd (pc := 115) dX9_sheet_115 ?_
    refine J_istore (pc := 116) (ls' := [some (.ref 89), some (.int x1), some (.int x2), some (.int x3), some (.int x4), some (.int y0), some (.int (x6 + (1 : Int32))), some (.int x7), some (.int x8)]) dX9_sheet_116 (Nat.le_of_ble_eq_true rfl) rfl rfl ?_
    refine J_iinc (pc := 118) (d := (1 : Int32)) (ls' := [some (.ref 89), some (.int x1), some (.int x2), some (.int x3), some (.int x4), some (.int y0), some (.int (x6 + (1 : Int32))), some (.int (x7 + (1 : Int32))), some (.int x8)]) dX9_sheet_118 (by decide) rfl (Nat.le_of_ble_eq_true rfl) rfl rfl ?_
    refine J_goto (pc := 121) (tgt := 50) dX9_sheet_121 (by decide) ?_
    refine J_weak (ls' := [some (.ref 89), some (.int x1), some (.int x2), some (.int x3), some (.int x4), some (.int y0), some (.int (x6 + (1 : Int32))), some (.int (x7 + (1 : Int32))), none]) ⟨rfl, rfl, rfl, rfl, rfl, rfl, rfl, rfl, trivial⟩ ?_
    exact hR x1 x2 x3 x4 y0 (x6 + (1 : Int32)) (x7 + (1 : Int32)) I
set_option maxRecDepth 100000 in
theorem tb_X9_sheet_50 {G : Gt} (hG : Gok G) (hn : gn G = 104) {K124 : Int32 → Int32 → Int32 → Int32 → Int32 → Mem → Option (Int32 × Mem)} (hK124 : ∀ (x1 : Int32) (x2 : Int32) (x4 : Int32) (x5 : Int32) (x6 : Int32) (I : Mem), J G (mu_X9_sheet G) 124 [some (.ref 89), some (.int x1), some (.int x2), none, some (.int x4), some (.int x5), some (.int x6), none, none] [] I (K124 x1 x2 x4 x5 x6 I)) {R : Int32 → Int32 → Int32 → Int32 → Int32 → Int32 → Int32 → Mem → Option (Int32 × Mem)} (hR : ∀ (x1 : Int32) (x2 : Int32) (x3 : Int32) (x4 : Int32) (x5 : Int32) (x6 : Int32) (x7 : Int32) (I : Mem), J G (mu_X9_sheet G) 50 [some (.ref 89), some (.int x1), some (.int x2), some (.int x3), some (.int x4), some (.int x5), some (.int x6), some (.int x7), none] [] I (R x1 x2 x3 x4 x5 x6 x7 I)) (x1 : Int32) (x2 : Int32) (x3 : Int32) (x4 : Int32) (x5 : Int32) (x6 : Int32) (x7 : Int32) (I : Mem) : J G (mu_X9_sheet G) 50 [some (.ref 89), some (.int x1), some (.int x2), some (.int x3), some (.int x4), some (.int x5), some (.int x6), some (.int x7), none] [] I (b_X9_sheet_50 K124 R x1 x2 x3 x4 x5 x6 x7 I) := by
  unfold b_X9_sheet_50
  refine J_iload (pc := 50) (x := x7) dX9_sheet_50 rfl ?_
  refine J_iload_n (pc := 52) (x := x3) dX9_sheet_52 rfl ?_
  refine J_icmp_gt (pc := 53) (tgt := 124) dX9_sheet_53 (by decide) ?_ ?_
  · refine J_weak (ls' := [some (.ref 89), some (.int x1), some (.int x2), none, some (.int x4), some (.int x5), some (.int x6), none, none]) ⟨rfl, rfl, rfl, rfl, rfl, rfl, trivial⟩ ?_
    exact hK124 x1 x2 x4 x5 x6 I
  · refine J_aload_n (pc := 56) (x := 89) dX9_sheet_56 rfl ?_
    refine J_iload_n (pc := 57) (x := x1) dX9_sheet_57 rfl ?_
    refine J_iload (pc := 58) (x := x7) dX9_sheet_58 rfl ?_
    refine J_callVi (pc := 60) (t := 9) (as := [.int x1, .int x7]) (st := []) (c_X9_numberOf hG hn x1 x7 I) (ok_m hn 89 (by decide) rfl) (by decide) rfl (cw_RX9_203 rfl) wd_577 wd_576 rfl ⟨Nat.le_of_ble_eq_true rfl, Nat.le_of_ble_eq_true rfl, Nat.le_of_ble_eq_true rfl, Nat.le_of_ble_eq_true rfl⟩ (Nat.le_of_ble_eq_true rfl) rfl dX9_sheet_60 (fun r12 I11 => ?_)
    refine J_istore (pc := 63) (ls' := [some (.ref 89), some (.int x1), some (.int x2), some (.int x3), some (.int x4), some (.int x5), some (.int x6), some (.int x7), some (.int r12)]) dX9_sheet_63 (Nat.le_of_ble_eq_true rfl) rfl rfl ?_
    refine J_iload (pc := 65) (x := r12) dX9_sheet_65 rfl ?_
    refine J_iload (pc := 67) (x := x4) dX9_sheet_67 rfl ?_
    refine J_icmp_ge (pc := 69) (tgt := 77) dX9_sheet_69 (by decide) ?_ ?_
    · refine J_iload (pc := 77) (x := x4) dX9_sheet_77 rfl ?_
      refine J_istore (pc := 79) (ls' := [some (.ref 89), some (.int x1), some (.int x2), some (.int x3), some (.int x4), some (.int x5), some (.int x6), some (.int x7), some (.int r12)]) dX9_sheet_79 (Nat.le_of_ble_eq_true rfl) rfl rfl ?_
      refine J_iload (pc := 81) (x := r12) dX9_sheet_81 rfl ?_
      refine J_iload (pc := 83) (x := x5) dX9_sheet_83 rfl ?_
      refine J_icmp_le (pc := 85) (tgt := 93) dX9_sheet_85 (by decide) ?_ ?_
      · refine J_iload (pc := 93) (x := x5) dX9_sheet_93 rfl ?_
        refine J_weak (ls' := [some (.ref 89), some (.int x1), some (.int x2), some (.int x3), some (.int x4), none, some (.int x6), some (.int x7), some (.int r12)]) ⟨rfl, rfl, rfl, rfl, rfl, rfl, rfl, rfl, trivial⟩ ?_
        exact tj_X9_sheet_95 hG hn hR x1 x2 x3 x4 x6 x7 r12 x5 I11
      · refine J_iload (pc := 88) (x := r12) dX9_sheet_88 rfl ?_
        refine J_goto (pc := 90) (tgt := 95) dX9_sheet_90 (by decide) ?_
        refine J_weak (ls' := [some (.ref 89), some (.int x1), some (.int x2), some (.int x3), some (.int x4), none, some (.int x6), some (.int x7), some (.int r12)]) ⟨rfl, rfl, rfl, rfl, rfl, rfl, rfl, rfl, trivial⟩ ?_
        exact tj_X9_sheet_95 hG hn hR x1 x2 x3 x4 x6 x7 r12 r12 I11
    · refine J_iload (pc := 72) (x := r12) dX9_sheet_72 rfl ?_
      refine J_goto (pc := 74) (tgt := 79) dX9_sheet_74 (by decide) ?_
      refine J_istore (pc := 79) (ls' := [some (.ref 89), some (.int x1), some (.int x2), some (.int x3), some (.int r12), some (.int x5), some (.int x6), some (.int x7), some (.int r12)]) dX9_sheet_79 (Nat.le_of_ble_eq_true rfl) rfl rfl ?_
      refine J_iload (pc := 81) (x := r12) dX9_sheet_81 rfl ?_
      refine J_iload (pc := 83) (x := x5) dX9_sheet_83 rfl ?_
      refine J_icmp_le (pc := 85) (tgt := 93) dX9_sheet_85 (by decide) ?_ ?_
      · refine J_iload (pc := 93) (x := x5) dX9_sheet_93 rfl ?_
        refine J_weak (ls' := [some (.ref 89), some (.int x1), some (.int x2), some (.int x3), some (.int r12), none, some (.int x6), some (.int x7), some (.int r12)]) ⟨rfl, rfl, rfl, rfl, rfl, rfl, rfl, rfl, trivial⟩ ?_
        exact tj_X9_sheet_95 hG hn hR x1 x2 x3 r12 x6 x7 r12 x5 I11
      · refine J_iload (pc := 88) (x := r12) dX9_sheet_88 rfl ?_
        refine J_goto (pc := 90) (tgt := 95) dX9_sheet_90 (by decide) ?_
        refine J_weak (ls' := [some (.ref 89), some (.int x1), some (.int x2), some (.int x3), some (.int r12), none, some (.int x6), some (.int x7), some (.int r12)]) ⟨rfl, rfl, rfl, rfl, rfl, rfl, rfl, rfl, trivial⟩ ?_
        exact tj_X9_sheet_95 hG hn hR x1 x2 x3 r12 x6 x7 r12 r12 I11
theorem tl_X9_sheet_50 {G : Gt} (hG : Gok G) (hn : gn G = 104) {K124 : Int32 → Int32 → Int32 → Int32 → Int32 → Mem → Option (Int32 × Mem)} (hK124 : ∀ (x1 : Int32) (x2 : Int32) (x4 : Int32) (x5 : Int32) (x6 : Int32) (I : Mem), J G (mu_X9_sheet G) 124 [some (.ref 89), some (.int x1), some (.int x2), none, some (.int x4), some (.int x5), some (.int x6), none, none] [] I (K124 x1 x2 x4 x5 x6 I)) (n : Nat) : ∀ (x1 : Int32) (x2 : Int32) (x3 : Int32) (x4 : Int32) (x5 : Int32) (x6 : Int32) (x7 : Int32) (I : Mem), J G (mu_X9_sheet G) 50 [some (.ref 89), some (.int x1), some (.int x2), some (.int x3), some (.int x4), some (.int x5), some (.int x6), some (.int x7), none] [] I (l_X9_sheet_50 K124 n x1 x2 x3 x4 x5 x6 x7 I) := by
  induction n with
  | zero => intro x1 x2 x3 x4 x5 x6 x7 I; exact J_none
  | succ n ih => intro x1 x2 x3 x4 x5 x6 x7 I; exact tb_X9_sheet_50 hG hn hK124 ih x1 x2 x3 x4 x5 x6 x7 I
set_option maxRecDepth 100000 in
theorem c_X9_sheet {G : Gt} (hG : Gok G) (hn : gn G = 104) (x1 : Int32) (x2 : Int32) (I : Mem) : Cti G yX9_sheet cX9_sheet 9 (some .int) 4 88 [.ref 89, .int x1, .int x2] I (f_X9_sheet x1 x2 I) := by
  refine Cti.of (ls := [some (.ref 89), some (.int x1), some (.int x2), none, none, none, none, none, none]) 6 hG (by decide) rfl (Nat.le_of_ble_eq_true rfl) ?_
  unfold f_X9_sheet
  refine J_aload_n (pc := 0) (x := 89) dX9_sheet_0 rfl ?_
  refine J_iload_n (pc := 1) (x := x1) dX9_sheet_1 rfl ?_
  refine J_callVi (pc := 2) (t := 9) (as := [.int x1]) (st := []) (c_X9_isSheet hG hn x1 I) (ok_m hn 89 (by decide) rfl) (by decide) rfl (cw_RX9_218 rfl) wd_509 wd_508 rfl ⟨Nat.le_of_ble_eq_true rfl, Nat.le_of_ble_eq_true rfl, Nat.le_of_ble_eq_true rfl, Nat.le_of_ble_eq_true rfl⟩ (Nat.le_of_ble_eq_true rfl) rfl dX9_sheet_2 (fun r2 I1 => ?_)
  refine J_if_eq (pc := 5) (tgt := 20) dX9_sheet_5 (by decide) ?_ ?_
  · refine J_iconst (pc := 20) (v := (-1 : Int32)) dX9_sheet_20 (by decide) ?_
    exact J_iret (pc := 21) dX9_sheet_21
  · refine J_iload_n (pc := 8) (x := x2) dX9_sheet_8 rfl ?_
    refine J_i2l (pc := 9) dX9_sheet_9 ?_
    refine J_lconst (pc := 10) (v := (0 : Int64)) dX9_sheet_10 (by decide) ?_
    refine J_ldc2 (pc := 11) (v := (4 : Int64)) wd_432 dX9_sheet_11 ?_
    refine J_callSi (pc := 14) (as := [.long ((x2).toInt64), .long (0 : Int64), .long (4 : Int64)]) (st := []) (c_X9_in hG hn ((x2).toInt64) (0 : Int64) (4 : Int64) I1) (cw_RX9_57 rfl) wd_425 rfl ⟨Nat.le_of_ble_eq_true rfl, Nat.le_of_ble_eq_true rfl, Nat.le_of_ble_eq_true rfl, Nat.le_of_ble_eq_true rfl⟩ (Nat.le_of_ble_eq_true rfl) rfl dX9_sheet_14 (fun r4 I3 => ?_)
    refine J_if_ne (pc := 17) (tgt := 22) dX9_sheet_17 (by decide) ?_ ?_
    · refine J_iconst (pc := 20) (v := (-1 : Int32)) dX9_sheet_20 (by decide) ?_
      exact J_iret (pc := 21) dX9_sheet_21
    · refine J_aload_n (pc := 22) (x := 89) dX9_sheet_22 rfl ?_
      refine J_aload_n (pc := 23) (x := 89) dX9_sheet_23 rfl ?_
      refine J_iload_n (pc := 24) (x := x1) dX9_sheet_24 rfl ?_
      refine J_callVi (pc := 25) (t := 9) (as := [.int x1]) (st := [.ref 89]) (c_X9_schemeOf hG hn x1 I3) (ok_m hn 89 (by decide) rfl) (by decide) rfl (cw_RX9_191 rfl) wd_569 wd_568 rfl ⟨Nat.le_of_ble_eq_true rfl, Nat.le_of_ble_eq_true rfl, Nat.le_of_ble_eq_true rfl, Nat.le_of_ble_eq_true rfl⟩ (Nat.le_of_ble_eq_true rfl) rfl dX9_sheet_25 (fun r6 I5 => ?_)
      refine J_callVi (pc := 28) (t := 9) (as := [.int r6]) (st := []) (c_X9_pagesOf hG hn r6 I5) (ok_m hn 89 (by decide) rfl) (by decide) rfl (cw_RX9_151 rfl) wd_495 wd_494 rfl ⟨Nat.le_of_ble_eq_true rfl, Nat.le_of_ble_eq_true rfl, Nat.le_of_ble_eq_true rfl, Nat.le_of_ble_eq_true rfl⟩ (Nat.le_of_ble_eq_true rfl) rfl dX9_sheet_28 (fun r8 I7 => ?_)
      refine J_istore_n (pc := 31) (ls' := [some (.ref 89), some (.int x1), some (.int x2), some (.int r8), none, none, none, none, none]) dX9_sheet_31 (Nat.le_of_ble_eq_true rfl) rfl rfl ?_
      refine J_aload_n (pc := 32) (x := 89) dX9_sheet_32 rfl ?_
      refine J_iload_n (pc := 33) (x := x1) dX9_sheet_33 rfl ?_
      refine J_iconst (pc := 34) (v := (1 : Int32)) dX9_sheet_34 (by decide) ?_
      refine J_callVi (pc := 35) (t := 9) (as := [.int x1, .int (1 : Int32)]) (st := []) (c_X9_numberOf hG hn x1 (1 : Int32) I7) (ok_m hn 89 (by decide) rfl) (by decide) rfl (cw_RX9_203 rfl) wd_577 wd_576 rfl ⟨Nat.le_of_ble_eq_true rfl, Nat.le_of_ble_eq_true rfl, Nat.le_of_ble_eq_true rfl, Nat.le_of_ble_eq_true rfl⟩ (Nat.le_of_ble_eq_true rfl) rfl dX9_sheet_35 (fun r10 I9 => ?_)
      refine J_istore (pc := 38) (ls' := [some (.ref 89), some (.int x1), some (.int x2), some (.int r8), some (.int r10), none, none, none, none]) dX9_sheet_38 (Nat.le_of_ble_eq_true rfl) rfl rfl ?_
      refine J_iload (pc := 40) (x := r10) dX9_sheet_40 rfl ?_
      refine J_istore (pc := 42) (ls' := [some (.ref 89), some (.int x1), some (.int x2), some (.int r8), some (.int r10), some (.int r10), none, none, none]) dX9_sheet_42 (Nat.le_of_ble_eq_true rfl) rfl rfl ?_
      refine J_iconst (pc := 44) (v := (0 : Int32)) dX9_sheet_44 (by decide) ?_
      refine J_istore (pc := 45) (ls' := [some (.ref 89), some (.int x1), some (.int x2), some (.int r8), some (.int r10), some (.int r10), some (.int (0 : Int32)), none, none]) dX9_sheet_45 (Nat.le_of_ble_eq_true rfl) rfl rfl ?_
      refine J_iconst (pc := 47) (v := (1 : Int32)) dX9_sheet_47 (by decide) ?_
      refine J_istore (pc := 48) (ls' := [some (.ref 89), some (.int x1), some (.int x2), some (.int r8), some (.int r10), some (.int r10), some (.int (0 : Int32)), some (.int (1 : Int32)), none]) dX9_sheet_48 (Nat.le_of_ble_eq_true rfl) rfl rfl ?_
      refine tl_X9_sheet_50 hG hn (fun z13 z14 z15 z16 z17 I18 => ?_) fuel x1 x2 r8 r10 r10 (0 : Int32) (1 : Int32) I9
      · refine J_iload_n (pc := 124) (x := z14) dX9_sheet_124 rfl ?_
        refine J_if_ne (pc := 125) (tgt := 136) dX9_sheet_125 (by decide) ?_ ?_
        · refine J_aload_n (pc := 128) (x := 89) dX9_sheet_128 rfl ?_
          refine J_iload_n (pc := 129) (x := z13) dX9_sheet_129 rfl ?_
          refine J_callVi (pc := 130) (t := 9) (as := [.int z13]) (st := []) (c_X9_schemeOf hG hn z13 I18) (ok_m hn 89 (by decide) rfl) (by decide) rfl (cw_RX9_191 rfl) wd_569 wd_568 rfl ⟨Nat.le_of_ble_eq_true rfl, Nat.le_of_ble_eq_true rfl, Nat.le_of_ble_eq_true rfl, Nat.le_of_ble_eq_true rfl⟩ (Nat.le_of_ble_eq_true rfl) rfl dX9_sheet_130 (fun r20 I19 => ?_)
          refine J_goto (pc := 133) (tgt := 175) dX9_sheet_133 (by decide) ?_
          exact J_iret (pc := 175) dX9_sheet_175
        · refine J_iload_n (pc := 136) (x := z14) dX9_sheet_136 rfl ?_
          refine J_iconst (pc := 137) (v := (1 : Int32)) dX9_sheet_137 (by decide) ?_
          refine J_icmp_ne (pc := 138) (tgt := 153) dX9_sheet_138 (by decide) ?_ ?_
          · refine J_aload_n (pc := 141) (x := 89) dX9_sheet_141 rfl ?_
            refine J_get (pc := 142) (t := 9) (k := 2) (.ref 91) (ok_m hn 89 (by decide) rfl) (by decide) rfl ingX9 (by decide) wd_467 rfl dX9_sheet_142 ?_
            refine J_bipush (pc := 145) (v := (28 : Int32)) dX9_sheet_145 (by decide) ?_
            refine J_iload_n (pc := 147) (x := z13) dX9_sheet_147 rfl ?_
            refine J_iadd (pc := 148) dX9_sheet_148 ?_
            refine J_ck (fun hc21 => ?_)
            refine J_ild (pc := 149) (t := 31) (k := (tn ((28 : Int32) + z13))) (ok_m hn 91 (by decide) rfl) iT_31 (inb_in hc21) rfl dX9_sheet_149 ?_
            refine J_goto (pc := 150) (tgt := 175) dX9_sheet_150 (by decide) ?_
            exact J_iret (pc := 175) dX9_sheet_175
          · refine J_iload_n (pc := 153) (x := z14) dX9_sheet_153 rfl ?_
            refine J_iconst (pc := 154) (v := (2 : Int32)) dX9_sheet_154 (by decide) ?_
            refine J_icmp_ne (pc := 155) (tgt := 163) dX9_sheet_155 (by decide) ?_ ?_
            · refine J_iload (pc := 158) (x := z15) dX9_sheet_158 rfl ?_
              refine J_goto (pc := 160) (tgt := 175) dX9_sheet_160 (by decide) ?_
              exact J_iret (pc := 175) dX9_sheet_175
            · refine J_iload_n (pc := 163) (x := z14) dX9_sheet_163 rfl ?_
              refine J_iconst (pc := 164) (v := (3 : Int32)) dX9_sheet_164 (by decide) ?_
              refine J_icmp_ne (pc := 165) (tgt := 173) dX9_sheet_165 (by decide) ?_ ?_
              · refine J_iload (pc := 168) (x := z16) dX9_sheet_168 rfl ?_
                refine J_goto (pc := 170) (tgt := 175) dX9_sheet_170 (by decide) ?_
                exact J_iret (pc := 175) dX9_sheet_175
              · refine J_iload (pc := 173) (x := z17) dX9_sheet_173 rfl ?_
                exact J_iret (pc := 175) dX9_sheet_175
abbrev mu_X9_missing (G : Gt) : Mt (Int32 × Mem) := mi G cX9_missing 6 yX9_missing.cls (some .int) 3 70
def b_X9_missing_15 (K35 : Int32 → Int32 → Mem → Option (Int32 × Mem)) (R : Int32 → Int32 → Int32 → Mem → Option (Int32 × Mem)) (x1 : Int32) (x2 : Int32) (x3 : Int32) (I : Mem) : Option (Int32 × Mem) :=
  (if (440 : Int32) ≤ x3 then K35 x1 x2 I else ck (inb x3 440) <| R x1 x2 (x3 + (1 : Int32)) (stm I 103 (tn x3) (vp_nar .boolean (0 : Int32))))
def l_X9_missing_15 (K35 : Int32 → Int32 → Mem → Option (Int32 × Mem)) : Nat → Int32 → Int32 → Int32 → Mem → Option (Int32 × Mem) := fx (b_X9_missing_15 K35) (fun _ _ _ _ => none)
def b_X9_missing_56 (K115 : Int32 → Int32 → Int32 → Mem → Option (Int32 × Mem)) (R : Int32 → Int32 → Int32 → Int32 → Int32 → Mem → Option (Int32 × Mem)) (x1 : Int32) (x2 : Int32) (x3 : Int32) (x4 : Int32) (x5 : Int32) (I : Mem) : Option (Int32 × Mem) :=
  (if x4 < x5 then K115 x1 x2 x3 I else ck (inb ((28 : Int32) + x3) 132) <| (if (I 91 (tn ((28 : Int32) + x3))) = (1 : Int32) then bI (f_X9_numberOf x3 x5 I) fun r13 I12 => bI (f_X9_numberOf x3 x5 I12) fun r15 I14 => (if (I14 91 0) < r15 then ck (inb r13 440) <| R x1 x2 x3 x4 (x5 + (1 : Int32)) (stm I14 103 (tn r13) (vp_nar .boolean (0 : Int32))) else ck (inb r13 440) <| R x1 x2 x3 x4 (x5 + (1 : Int32)) (stm I14 103 (tn r13) (vp_nar .boolean (1 : Int32)))) else K115 x1 x2 x3 I))
def l_X9_missing_56 (K115 : Int32 → Int32 → Int32 → Mem → Option (Int32 × Mem)) : Nat → Int32 → Int32 → Int32 → Int32 → Int32 → Mem → Option (Int32 × Mem) := fx (b_X9_missing_56 K115) (fun _ _ _ _ _ _ => none)
def b_X9_missing_37 (K121 : Int32 → Mem → Option (Int32 × Mem)) (R : Int32 → Int32 → Int32 → Mem → Option (Int32 × Mem)) (x1 : Int32) (x2 : Int32) (x3 : Int32) (I : Mem) : Option (Int32 × Mem) :=
  (if x2 ≤ x3 then K121 x1 I else bI (f_X9_schemeOf x3 I) fun r8 I7 => bI (f_X9_pagesOf r8 I7) fun r10 I9 => l_X9_missing_56 (fun (z18 : Int32) (z19 : Int32) (z20 : Int32) I21 => R z18 z19 (z20 + (1 : Int32)) I21) fuel x1 x2 x3 r10 (1 : Int32) I9)
def l_X9_missing_37 (K121 : Int32 → Mem → Option (Int32 × Mem)) : Nat → Int32 → Int32 → Int32 → Mem → Option (Int32 × Mem) := fx (b_X9_missing_37 K121) (fun _ _ _ _ => none)
def b_X9_missing_129 (K155 : Int32 → Mem → Option (Int32 × Mem)) (K189 : Int32 → Int32 → Int32 → Mem → Option (Int32 × Mem)) (R : Int32 → Int32 → Int32 → Int32 → Mem → Option (Int32 × Mem)) (x1 : Int32) (x3 : Int32) (x4 : Int32) (x5 : Int32) (I : Mem) : Option (Int32 × Mem) :=
  (if (I 91 0) < x5 then K189 x1 x3 x4 I else ck (inb x5 440) <| (if (I 103 (tn x5)) = 0 then R x1 x3 x4 (x5 + (1 : Int32)) I else (if x3 = x1 then K155 x5 I else ck (inb (x5 - (1 : Int32)) 440) <| (if (I 103 (tn (x5 - (1 : Int32)))) = 0 then R x1 (x3 + (1 : Int32)) (x4 + (1 : Int32)) (x5 + (1 : Int32)) I else R x1 (x3 + (1 : Int32)) (x4 + (0 : Int32)) (x5 + (1 : Int32)) I))))
def l_X9_missing_129 (K155 : Int32 → Mem → Option (Int32 × Mem)) (K189 : Int32 → Int32 → Int32 → Mem → Option (Int32 × Mem)) : Nat → Int32 → Int32 → Int32 → Int32 → Mem → Option (Int32 × Mem) := fx (b_X9_missing_129 K155 K189) (fun _ _ _ _ _ => none)
def f_X9_missing (x1 : Int32) (I : Mem) : Option (Int32 × Mem) :=
  (if (-2 : Int32) ≤ x1 then bI (f_X9_sheetMany I) fun r2 I1 => l_X9_missing_15 (fun (z4 : Int32) (z5 : Int32) I6 => l_X9_missing_37 (fun (z22 : Int32) I23 => l_X9_missing_129 (fun (z26 : Int32) I27 => some (z26, I27)) (fun (z28 : Int32) (z29 : Int32) (z30 : Int32) I31 => (if z28 = (-1 : Int32) then some (z29, I31) else (if z28 = (-2 : Int32) then some (z30, I31) else some ((-4 : Int32), I31)))) fuel z22 (0 : Int32) (0 : Int32) (1 : Int32) I23) fuel z4 z5 (0 : Int32) I6) fuel x1 r2 (0 : Int32) I1 else some ((-1 : Int32), I))
set_option maxRecDepth 100000 in
theorem tb_X9_missing_15 {G : Gt} (hG : Gok G) (hn : gn G = 104) {K35 : Int32 → Int32 → Mem → Option (Int32 × Mem)} (hK35 : ∀ (x1 : Int32) (x2 : Int32) (I : Mem), J G (mu_X9_missing G) 35 [some (.ref 89), some (.int x1), some (.int x2), none, none, none] [] I (K35 x1 x2 I)) {R : Int32 → Int32 → Int32 → Mem → Option (Int32 × Mem)} (hR : ∀ (x1 : Int32) (x2 : Int32) (x3 : Int32) (I : Mem), J G (mu_X9_missing G) 15 [some (.ref 89), some (.int x1), some (.int x2), some (.int x3), none, none] [] I (R x1 x2 x3 I)) (x1 : Int32) (x2 : Int32) (x3 : Int32) (I : Mem) : J G (mu_X9_missing G) 15 [some (.ref 89), some (.int x1), some (.int x2), some (.int x3), none, none] [] I (b_X9_missing_15 K35 R x1 x2 x3 I) := by
  unfold b_X9_missing_15
  refine J_iload_n (pc := 15) (x := x3) dX9_missing_15 rfl ?_
  refine J_sipush (pc := 16) (v := (440 : Int32)) dX9_missing_16 (by decide) ?_
  refine J_icmp_ge (pc := 19) (tgt := 35) dX9_missing_19 (by decide) ?_ ?_
  · refine J_weak (ls' := [some (.ref 89), some (.int x1), some (.int x2), none, none, none]) ⟨rfl, rfl, rfl, trivial⟩ ?_
    exact hK35 x1 x2 I
  · refine J_aload_n (pc := 22) (x := 89) dX9_missing_22 rfl ?_
    refine J_get (pc := 23) (t := 9) (k := 23) (.ref 103) (ok_m hn 89 (by decide) rfl) (by decide) rfl ingX9 (by decide) wd_593 rfl dX9_missing_23 ?_
    refine J_iload_n (pc := 26) (x := x3) dX9_missing_26 rfl ?_
    refine J_iconst (pc := 27) (v := (0 : Int32)) dX9_missing_27 (by decide) ?_
    refine J_ck (fun hc3 => ?_)
    refine J_zst (pc := 28) (k := (tn x3)) (ok_m hn 103 (by decide) rfl) (inb_in hc3) rfl dX9_missing_28 ?_
    refine J_iinc (pc := 29) (d := (1 : Int32)) (ls' := [some (.ref 89), some (.int x1), some (.int x2), some (.int (x3 + (1 : Int32))), none, none]) dX9_missing_29 (by decide) rfl (Nat.le_of_ble_eq_true rfl) rfl rfl ?_
    refine J_goto (pc := 32) (tgt := 15) dX9_missing_32 (by decide) ?_
    exact hR x1 x2 (x3 + (1 : Int32)) (stm I 103 (tn x3) (vp_nar .boolean (0 : Int32)))
theorem tl_X9_missing_15 {G : Gt} (hG : Gok G) (hn : gn G = 104) {K35 : Int32 → Int32 → Mem → Option (Int32 × Mem)} (hK35 : ∀ (x1 : Int32) (x2 : Int32) (I : Mem), J G (mu_X9_missing G) 35 [some (.ref 89), some (.int x1), some (.int x2), none, none, none] [] I (K35 x1 x2 I)) (n : Nat) : ∀ (x1 : Int32) (x2 : Int32) (x3 : Int32) (I : Mem), J G (mu_X9_missing G) 15 [some (.ref 89), some (.int x1), some (.int x2), some (.int x3), none, none] [] I (l_X9_missing_15 K35 n x1 x2 x3 I) := by
  induction n with
  | zero => intro x1 x2 x3 I; exact J_none
  | succ n ih => intro x1 x2 x3 I; exact tb_X9_missing_15 hG hn hK35 ih x1 x2 x3 I
set_option maxRecDepth 100000 in
theorem tb_X9_missing_56 {G : Gt} (hG : Gok G) (hn : gn G = 104) {K115 : Int32 → Int32 → Int32 → Mem → Option (Int32 × Mem)} (hK115 : ∀ (x1 : Int32) (x2 : Int32) (x3 : Int32) (I : Mem), J G (mu_X9_missing G) 115 [some (.ref 89), some (.int x1), some (.int x2), some (.int x3), none, none] [] I (K115 x1 x2 x3 I)) {R : Int32 → Int32 → Int32 → Int32 → Int32 → Mem → Option (Int32 × Mem)} (hR : ∀ (x1 : Int32) (x2 : Int32) (x3 : Int32) (x4 : Int32) (x5 : Int32) (I : Mem), J G (mu_X9_missing G) 56 [some (.ref 89), some (.int x1), some (.int x2), some (.int x3), some (.int x4), some (.int x5)] [] I (R x1 x2 x3 x4 x5 I)) (x1 : Int32) (x2 : Int32) (x3 : Int32) (x4 : Int32) (x5 : Int32) (I : Mem) : J G (mu_X9_missing G) 56 [some (.ref 89), some (.int x1), some (.int x2), some (.int x3), some (.int x4), some (.int x5)] [] I (b_X9_missing_56 K115 R x1 x2 x3 x4 x5 I) := by
  unfold b_X9_missing_56
  refine J_iload (pc := 56) (x := x5) dX9_missing_56 rfl ?_
  refine J_iload (pc := 58) (x := x4) dX9_missing_58 rfl ?_
  refine J_icmp_gt (pc := 60) (tgt := 115) dX9_missing_60 (by decide) ?_ ?_
  · refine J_weak (ls' := [some (.ref 89), some (.int x1), some (.int x2), some (.int x3), none, none]) ⟨rfl, rfl, rfl, rfl, trivial⟩ ?_
    exact hK115 x1 x2 x3 I
  · refine J_aload_n (pc := 63) (x := 89) dX9_missing_63 rfl ?_
    refine J_get (pc := 64) (t := 9) (k := 2) (.ref 91) (ok_m hn 89 (by decide) rfl) (by decide) rfl ingX9 (by decide) wd_467 rfl dX9_missing_64 ?_
    refine J_bipush (pc := 67) (v := (28 : Int32)) dX9_missing_67 (by decide) ?_
    refine J_iload_n (pc := 69) (x := x3) dX9_missing_69 rfl ?_
    refine J_iadd (pc := 70) dX9_missing_70 ?_
    refine J_ck (fun hc11 => ?_)
    refine J_ild (pc := 71) (t := 31) (k := (tn ((28 : Int32) + x3))) (ok_m hn 91 (by decide) rfl) iT_31 (inb_in hc11) rfl dX9_missing_71 ?_
    refine J_iconst (pc := 72) (v := (1 : Int32)) dX9_missing_72 (by decide) ?_
    refine J_icmp_ne (pc := 73) (tgt := 115) dX9_missing_73 (by decide) ?_ ?_
    · refine J_aload_n (pc := 76) (x := 89) dX9_missing_76 rfl ?_
      refine J_get (pc := 77) (t := 9) (k := 23) (.ref 103) (ok_m hn 89 (by decide) rfl) (by decide) rfl ingX9 (by decide) wd_593 rfl dX9_missing_77 ?_
      refine J_aload_n (pc := 80) (x := 89) dX9_missing_80 rfl ?_
      refine J_iload_n (pc := 81) (x := x3) dX9_missing_81 rfl ?_
      refine J_iload (pc := 82) (x := x5) dX9_missing_82 rfl ?_
      refine J_callVi (pc := 84) (t := 9) (as := [.int x3, .int x5]) (st := [.ref 103]) (c_X9_numberOf hG hn x3 x5 I) (ok_m hn 89 (by decide) rfl) (by decide) rfl (cw_RX9_203 rfl) wd_577 wd_576 rfl ⟨Nat.le_of_ble_eq_true rfl, Nat.le_of_ble_eq_true rfl, Nat.le_of_ble_eq_true rfl, Nat.le_of_ble_eq_true rfl⟩ (Nat.le_of_ble_eq_true rfl) rfl dX9_missing_84 (fun r13 I12 => ?_)
      refine J_aload_n (pc := 87) (x := 89) dX9_missing_87 rfl ?_
      refine J_iload_n (pc := 88) (x := x3) dX9_missing_88 rfl ?_
      refine J_iload (pc := 89) (x := x5) dX9_missing_89 rfl ?_
      refine J_callVi (pc := 91) (t := 9) (as := [.int x3, .int x5]) (st := [.int r13, .ref 103]) (c_X9_numberOf hG hn x3 x5 I12) (ok_m hn 89 (by decide) rfl) (by decide) rfl (cw_RX9_203 rfl) wd_577 wd_576 rfl ⟨Nat.le_of_ble_eq_true rfl, Nat.le_of_ble_eq_true rfl, Nat.le_of_ble_eq_true rfl, Nat.le_of_ble_eq_true rfl⟩ (Nat.le_of_ble_eq_true rfl) rfl dX9_missing_91 (fun r15 I14 => ?_)
      refine J_aload_n (pc := 94) (x := 89) dX9_missing_94 rfl ?_
      refine J_get (pc := 95) (t := 9) (k := 2) (.ref 91) (ok_m hn 89 (by decide) rfl) (by decide) rfl ingX9 (by decide) wd_467 rfl dX9_missing_95 ?_
      refine J_iconst (pc := 98) (v := (0 : Int32)) dX9_missing_98 (by decide) ?_
      refine J_ild (pc := 99) (t := 31) (k := 0) (ok_m hn 91 (by decide) rfl) iT_31 (inb_in (by decide)) (by decide) dX9_missing_99 ?_
      refine J_icmp_gt (pc := 100) (tgt := 107) dX9_missing_100 (by decide) ?_ ?_
      · refine J_iconst (pc := 107) (v := (0 : Int32)) dX9_missing_107 (by decide) ?_
        refine J_ck (fun hc16 => ?_)
        refine J_zst (pc := 108) (k := (tn r13)) (ok_m hn 103 (by decide) rfl) (inb_in hc16) rfl dX9_missing_108 ?_
        refine J_iinc (pc := 109) (d := (1 : Int32)) (ls' := [some (.ref 89), some (.int x1), some (.int x2), some (.int x3), some (.int x4), some (.int (x5 + (1 : Int32)))]) dX9_missing_109 (by decide) rfl (Nat.le_of_ble_eq_true rfl) rfl rfl ?_
        refine J_goto (pc := 112) (tgt := 56) dX9_missing_112 (by decide) ?_
        exact hR x1 x2 x3 x4 (x5 + (1 : Int32)) (stm I14 103 (tn r13) (vp_nar .boolean (0 : Int32)))
      · refine J_iconst (pc := 103) (v := (1 : Int32)) dX9_missing_103 (by decide) ?_
        refine J_goto (pc := 104) (tgt := 108) dX9_missing_104 (by decide) ?_
        refine J_ck (fun hc17 => ?_)
        refine J_zst (pc := 108) (k := (tn r13)) (ok_m hn 103 (by decide) rfl) (inb_in hc17) rfl dX9_missing_108 ?_
        refine J_iinc (pc := 109) (d := (1 : Int32)) (ls' := [some (.ref 89), some (.int x1), some (.int x2), some (.int x3), some (.int x4), some (.int (x5 + (1 : Int32)))]) dX9_missing_109 (by decide) rfl (Nat.le_of_ble_eq_true rfl) rfl rfl ?_
        refine J_goto (pc := 112) (tgt := 56) dX9_missing_112 (by decide) ?_
        exact hR x1 x2 x3 x4 (x5 + (1 : Int32)) (stm I14 103 (tn r13) (vp_nar .boolean (1 : Int32)))
    · refine J_weak (ls' := [some (.ref 89), some (.int x1), some (.int x2), some (.int x3), none, none]) ⟨rfl, rfl, rfl, rfl, trivial⟩ ?_
      exact hK115 x1 x2 x3 I
theorem tl_X9_missing_56 {G : Gt} (hG : Gok G) (hn : gn G = 104) {K115 : Int32 → Int32 → Int32 → Mem → Option (Int32 × Mem)} (hK115 : ∀ (x1 : Int32) (x2 : Int32) (x3 : Int32) (I : Mem), J G (mu_X9_missing G) 115 [some (.ref 89), some (.int x1), some (.int x2), some (.int x3), none, none] [] I (K115 x1 x2 x3 I)) (n : Nat) : ∀ (x1 : Int32) (x2 : Int32) (x3 : Int32) (x4 : Int32) (x5 : Int32) (I : Mem), J G (mu_X9_missing G) 56 [some (.ref 89), some (.int x1), some (.int x2), some (.int x3), some (.int x4), some (.int x5)] [] I (l_X9_missing_56 K115 n x1 x2 x3 x4 x5 I) := by
  induction n with
  | zero => intro x1 x2 x3 x4 x5 I; exact J_none
  | succ n ih => intro x1 x2 x3 x4 x5 I; exact tb_X9_missing_56 hG hn hK115 ih x1 x2 x3 x4 x5 I
set_option maxRecDepth 100000 in
theorem tb_X9_missing_37 {G : Gt} (hG : Gok G) (hn : gn G = 104) {K121 : Int32 → Mem → Option (Int32 × Mem)} (hK121 : ∀ (x1 : Int32) (I : Mem), J G (mu_X9_missing G) 121 [some (.ref 89), some (.int x1), none, none, none, none] [] I (K121 x1 I)) {R : Int32 → Int32 → Int32 → Mem → Option (Int32 × Mem)} (hR : ∀ (x1 : Int32) (x2 : Int32) (x3 : Int32) (I : Mem), J G (mu_X9_missing G) 37 [some (.ref 89), some (.int x1), some (.int x2), some (.int x3), none, none] [] I (R x1 x2 x3 I)) (x1 : Int32) (x2 : Int32) (x3 : Int32) (I : Mem) : J G (mu_X9_missing G) 37 [some (.ref 89), some (.int x1), some (.int x2), some (.int x3), none, none] [] I (b_X9_missing_37 K121 R x1 x2 x3 I) := by
  unfold b_X9_missing_37
  refine J_iload_n (pc := 37) (x := x3) dX9_missing_37 rfl ?_
  refine J_iload_n (pc := 38) (x := x2) dX9_missing_38 rfl ?_
  refine J_icmp_ge (pc := 39) (tgt := 121) dX9_missing_39 (by decide) ?_ ?_
  · refine J_weak (ls' := [some (.ref 89), some (.int x1), none, none, none, none]) ⟨rfl, rfl, trivial⟩ ?_
    exact hK121 x1 I
  · refine J_aload_n (pc := 42) (x := 89) dX9_missing_42 rfl ?_
    refine J_aload_n (pc := 43) (x := 89) dX9_missing_43 rfl ?_
    refine J_iload_n (pc := 44) (x := x3) dX9_missing_44 rfl ?_
    refine J_callVi (pc := 45) (t := 9) (as := [.int x3]) (st := [.ref 89]) (c_X9_schemeOf hG hn x3 I) (ok_m hn 89 (by decide) rfl) (by decide) rfl (cw_RX9_191 rfl) wd_569 wd_568 rfl ⟨Nat.le_of_ble_eq_true rfl, Nat.le_of_ble_eq_true rfl, Nat.le_of_ble_eq_true rfl, Nat.le_of_ble_eq_true rfl⟩ (Nat.le_of_ble_eq_true rfl) rfl dX9_missing_45 (fun r8 I7 => ?_)
    refine J_callVi (pc := 48) (t := 9) (as := [.int r8]) (st := []) (c_X9_pagesOf hG hn r8 I7) (ok_m hn 89 (by decide) rfl) (by decide) rfl (cw_RX9_151 rfl) wd_495 wd_494 rfl ⟨Nat.le_of_ble_eq_true rfl, Nat.le_of_ble_eq_true rfl, Nat.le_of_ble_eq_true rfl, Nat.le_of_ble_eq_true rfl⟩ (Nat.le_of_ble_eq_true rfl) rfl dX9_missing_48 (fun r10 I9 => ?_)
    refine J_istore (pc := 51) (ls' := [some (.ref 89), some (.int x1), some (.int x2), some (.int x3), some (.int r10), none]) dX9_missing_51 (Nat.le_of_ble_eq_true rfl) rfl rfl ?_
    refine J_iconst (pc := 53) (v := (1 : Int32)) dX9_missing_53 (by decide) ?_
    refine J_istore (pc := 54) (ls' := [some (.ref 89), some (.int x1), some (.int x2), some (.int x3), some (.int r10), some (.int (1 : Int32))]) dX9_missing_54 (Nat.le_of_ble_eq_true rfl) rfl rfl ?_
    refine tl_X9_missing_56 hG hn (fun z18 z19 z20 I21 => ?_) fuel x1 x2 x3 r10 (1 : Int32) I9
    · refine J_iinc (pc := 115) (d := (1 : Int32)) (ls' := [some (.ref 89), some (.int z18), some (.int z19), some (.int (z20 + (1 : Int32))), none, none]) dX9_missing_115 (by decide) rfl (Nat.le_of_ble_eq_true rfl) rfl rfl ?_
      refine J_goto (pc := 118) (tgt := 37) dX9_missing_118 (by decide) ?_
      exact hR z18 z19 (z20 + (1 : Int32)) I21
theorem tl_X9_missing_37 {G : Gt} (hG : Gok G) (hn : gn G = 104) {K121 : Int32 → Mem → Option (Int32 × Mem)} (hK121 : ∀ (x1 : Int32) (I : Mem), J G (mu_X9_missing G) 121 [some (.ref 89), some (.int x1), none, none, none, none] [] I (K121 x1 I)) (n : Nat) : ∀ (x1 : Int32) (x2 : Int32) (x3 : Int32) (I : Mem), J G (mu_X9_missing G) 37 [some (.ref 89), some (.int x1), some (.int x2), some (.int x3), none, none] [] I (l_X9_missing_37 K121 n x1 x2 x3 I) := by
  induction n with
  | zero => intro x1 x2 x3 I; exact J_none
  | succ n ih => intro x1 x2 x3 I; exact tb_X9_missing_37 hG hn hK121 ih x1 x2 x3 I
set_option maxRecDepth 100000 in
theorem tb_X9_missing_129 {G : Gt} (hG : Gok G) (hn : gn G = 104) {K155 : Int32 → Mem → Option (Int32 × Mem)} (hK155 : ∀ (x5 : Int32) (I : Mem), J G (mu_X9_missing G) 155 [none, none, none, none, none, some (.int x5)] [] I (K155 x5 I)) {K189 : Int32 → Int32 → Int32 → Mem → Option (Int32 × Mem)} (hK189 : ∀ (x1 : Int32) (x3 : Int32) (x4 : Int32) (I : Mem), J G (mu_X9_missing G) 189 [none, some (.int x1), none, some (.int x3), some (.int x4), none] [] I (K189 x1 x3 x4 I)) {R : Int32 → Int32 → Int32 → Int32 → Mem → Option (Int32 × Mem)} (hR : ∀ (x1 : Int32) (x3 : Int32) (x4 : Int32) (x5 : Int32) (I : Mem), J G (mu_X9_missing G) 129 [some (.ref 89), some (.int x1), none, some (.int x3), some (.int x4), some (.int x5)] [] I (R x1 x3 x4 x5 I)) (x1 : Int32) (x3 : Int32) (x4 : Int32) (x5 : Int32) (I : Mem) : J G (mu_X9_missing G) 129 [some (.ref 89), some (.int x1), none, some (.int x3), some (.int x4), some (.int x5)] [] I (b_X9_missing_129 K155 K189 R x1 x3 x4 x5 I) := by
  unfold b_X9_missing_129
  refine J_iload (pc := 129) (x := x5) dX9_missing_129 rfl ?_
  refine J_aload_n (pc := 131) (x := 89) dX9_missing_131 rfl ?_
  refine J_get (pc := 132) (t := 9) (k := 2) (.ref 91) (ok_m hn 89 (by decide) rfl) (by decide) rfl ingX9 (by decide) wd_467 rfl dX9_missing_132 ?_
  refine J_iconst (pc := 135) (v := (0 : Int32)) dX9_missing_135 (by decide) ?_
  refine J_ild (pc := 136) (t := 31) (k := 0) (ok_m hn 91 (by decide) rfl) iT_31 (inb_in (by decide)) (by decide) dX9_missing_136 ?_
  refine J_icmp_gt (pc := 137) (tgt := 189) dX9_missing_137 (by decide) ?_ ?_
  · refine J_weak (ls' := [none, some (.int x1), none, some (.int x3), some (.int x4), none]) ⟨rfl, rfl, rfl, trivial⟩ ?_
    exact hK189 x1 x3 x4 I
  · refine J_aload_n (pc := 140) (x := 89) dX9_missing_140 rfl ?_
    refine J_get (pc := 141) (t := 9) (k := 23) (.ref 103) (ok_m hn 89 (by decide) rfl) (by decide) rfl ingX9 (by decide) wd_593 rfl dX9_missing_141 ?_
    refine J_iload (pc := 144) (x := x5) dX9_missing_144 rfl ?_
    refine J_ck (fun hc24 => ?_)
    refine J_zld (pc := 146) (k := (tn x5)) (ok_m hn 103 (by decide) rfl) (inb_in hc24) rfl dX9_missing_146 ?_
    refine J_if_eq (pc := 147) (tgt := 183) dX9_missing_147 (by decide) ?_ ?_
    · refine J_iinc (pc := 183) (d := (1 : Int32)) (ls' := [some (.ref 89), some (.int x1), none, some (.int x3), some (.int x4), some (.int (x5 + (1 : Int32)))]) dX9_missing_183 (by decide) rfl (Nat.le_of_ble_eq_true rfl) rfl rfl ?_
      refine J_goto (pc := 186) (tgt := 129) dX9_missing_186 (by decide) ?_
      exact hR x1 x3 x4 (x5 + (1 : Int32)) I
    · refine J_iload_n (pc := 150) (x := x3) dX9_missing_150 rfl ?_
      refine J_iload_n (pc := 151) (x := x1) dX9_missing_151 rfl ?_
      refine J_icmp_ne (pc := 152) (tgt := 158) dX9_missing_152 (by decide) ?_ ?_
      · refine J_weak (ls' := [none, none, none, none, none, some (.int x5)]) ⟨rfl, trivial⟩ ?_
        exact hK155 x5 I
      · refine J_iinc (pc := 158) (d := (1 : Int32)) (ls' := [some (.ref 89), some (.int x1), none, some (.int (x3 + (1 : Int32))), some (.int x4), some (.int x5)]) dX9_missing_158 (by decide) rfl (Nat.le_of_ble_eq_true rfl) rfl rfl ?_
        refine J_iload (pc := 161) (x := x4) dX9_missing_161 rfl ?_
        refine J_aload_n (pc := 163) (x := 89) dX9_missing_163 rfl ?_
        refine J_get (pc := 164) (t := 9) (k := 23) (.ref 103) (ok_m hn 89 (by decide) rfl) (by decide) rfl ingX9 (by decide) wd_593 rfl dX9_missing_164 ?_
        refine J_iload (pc := 167) (x := x5) dX9_missing_167 rfl ?_
        refine J_iconst (pc := 169) (v := (1 : Int32)) dX9_missing_169 (by decide) ?_
        refine J_isub (pc := 170) dX9_missing_170 ?_
        refine J_ck (fun hc25 => ?_)
        refine J_zld (pc := 171) (k := (tn (x5 - (1 : Int32)))) (ok_m hn 103 (by decide) rfl) (inb_in hc25) rfl dX9_missing_171 ?_
        refine J_if_eq (pc := 172) (tgt := 179) dX9_missing_172 (by decide) ?_ ?_
        · refine J_iconst (pc := 179) (v := (1 : Int32)) dX9_missing_179 (by decide) ?_
          refine J_iadd (pc := 180) dX9_missing_180 ?_
          refine J_istore (pc := 181) (ls' := [some (.ref 89), some (.int x1), none, some (.int (x3 + (1 : Int32))), some (.int (x4 + (1 : Int32))), some (.int x5)]) dX9_missing_181 (Nat.le_of_ble_eq_true rfl) rfl rfl ?_
          refine J_iinc (pc := 183) (d := (1 : Int32)) (ls' := [some (.ref 89), some (.int x1), none, some (.int (x3 + (1 : Int32))), some (.int (x4 + (1 : Int32))), some (.int (x5 + (1 : Int32)))]) dX9_missing_183 (by decide) rfl (Nat.le_of_ble_eq_true rfl) rfl rfl ?_
          refine J_goto (pc := 186) (tgt := 129) dX9_missing_186 (by decide) ?_
          exact hR x1 (x3 + (1 : Int32)) (x4 + (1 : Int32)) (x5 + (1 : Int32)) I
        · refine J_iconst (pc := 175) (v := (0 : Int32)) dX9_missing_175 (by decide) ?_
          refine J_goto (pc := 176) (tgt := 180) dX9_missing_176 (by decide) ?_
          refine J_iadd (pc := 180) dX9_missing_180 ?_
          refine J_istore (pc := 181) (ls' := [some (.ref 89), some (.int x1), none, some (.int (x3 + (1 : Int32))), some (.int (x4 + (0 : Int32))), some (.int x5)]) dX9_missing_181 (Nat.le_of_ble_eq_true rfl) rfl rfl ?_
          refine J_iinc (pc := 183) (d := (1 : Int32)) (ls' := [some (.ref 89), some (.int x1), none, some (.int (x3 + (1 : Int32))), some (.int (x4 + (0 : Int32))), some (.int (x5 + (1 : Int32)))]) dX9_missing_183 (by decide) rfl (Nat.le_of_ble_eq_true rfl) rfl rfl ?_
          refine J_goto (pc := 186) (tgt := 129) dX9_missing_186 (by decide) ?_
          exact hR x1 (x3 + (1 : Int32)) (x4 + (0 : Int32)) (x5 + (1 : Int32)) I
theorem tl_X9_missing_129 {G : Gt} (hG : Gok G) (hn : gn G = 104) {K155 : Int32 → Mem → Option (Int32 × Mem)} (hK155 : ∀ (x5 : Int32) (I : Mem), J G (mu_X9_missing G) 155 [none, none, none, none, none, some (.int x5)] [] I (K155 x5 I)) {K189 : Int32 → Int32 → Int32 → Mem → Option (Int32 × Mem)} (hK189 : ∀ (x1 : Int32) (x3 : Int32) (x4 : Int32) (I : Mem), J G (mu_X9_missing G) 189 [none, some (.int x1), none, some (.int x3), some (.int x4), none] [] I (K189 x1 x3 x4 I)) (n : Nat) : ∀ (x1 : Int32) (x3 : Int32) (x4 : Int32) (x5 : Int32) (I : Mem), J G (mu_X9_missing G) 129 [some (.ref 89), some (.int x1), none, some (.int x3), some (.int x4), some (.int x5)] [] I (l_X9_missing_129 K155 K189 n x1 x3 x4 x5 I) := by
  induction n with
  | zero => intro x1 x3 x4 x5 I; exact J_none
  | succ n ih => intro x1 x3 x4 x5 I; exact tb_X9_missing_129 hG hn hK155 hK189 ih x1 x3 x4 x5 I
set_option maxRecDepth 100000 in
theorem c_X9_missing {G : Gt} (hG : Gok G) (hn : gn G = 104) (x1 : Int32) (I : Mem) : Cti G yX9_missing cX9_missing 6 (some .int) 3 70 [.ref 89, .int x1] I (f_X9_missing x1 I) := by
  refine Cti.of (ls := [some (.ref 89), some (.int x1), none, none, none, none]) 4 hG (by decide) rfl (Nat.le_of_ble_eq_true rfl) ?_
  unfold f_X9_missing
  refine J_iload_n (pc := 0) (x := x1) dX9_missing_0 rfl ?_
  refine J_bipush (pc := 1) (v := (-2 : Int32)) dX9_missing_1 (by decide) ?_
  refine J_icmp_ge (pc := 3) (tgt := 8) dX9_missing_3 (by decide) ?_ ?_
  · refine J_aload_n (pc := 8) (x := 89) dX9_missing_8 rfl ?_
    refine J_callVi (pc := 9) (t := 9) (as := []) (st := []) (c_X9_sheetMany hG hn I) (ok_m hn 89 (by decide) rfl) (by decide) rfl (cw_RX9_188 rfl) wd_505 wd_504 rfl ⟨Nat.le_of_ble_eq_true rfl, Nat.le_of_ble_eq_true rfl, Nat.le_of_ble_eq_true rfl, Nat.le_of_ble_eq_true rfl⟩ (Nat.le_of_ble_eq_true rfl) rfl dX9_missing_9 (fun r2 I1 => ?_)
    refine J_istore_n (pc := 12) (ls' := [some (.ref 89), some (.int x1), some (.int r2), none, none, none]) dX9_missing_12 (Nat.le_of_ble_eq_true rfl) rfl rfl ?_
    refine J_iconst (pc := 13) (v := (0 : Int32)) dX9_missing_13 (by decide) ?_
    refine J_istore_n (pc := 14) (ls' := [some (.ref 89), some (.int x1), some (.int r2), some (.int (0 : Int32)), none, none]) dX9_missing_14 (Nat.le_of_ble_eq_true rfl) rfl rfl ?_
    refine tl_X9_missing_15 hG hn (fun z4 z5 I6 => ?_) fuel x1 r2 (0 : Int32) I1
    · refine J_iconst (pc := 35) (v := (0 : Int32)) dX9_missing_35 (by decide) ?_
      refine J_istore_n (pc := 36) (ls' := [some (.ref 89), some (.int z4), some (.int z5), some (.int (0 : Int32)), none, none]) dX9_missing_36 (Nat.le_of_ble_eq_true rfl) rfl rfl ?_
      refine tl_X9_missing_37 hG hn (fun z22 I23 => ?_) fuel z4 z5 (0 : Int32) I6
      · refine J_iconst (pc := 121) (v := (0 : Int32)) dX9_missing_121 (by decide) ?_
        refine J_istore_n (pc := 122) (ls' := [some (.ref 89), some (.int z22), none, some (.int (0 : Int32)), none, none]) dX9_missing_122 (Nat.le_of_ble_eq_true rfl) rfl rfl ?_
        refine J_iconst (pc := 123) (v := (0 : Int32)) dX9_missing_123 (by decide) ?_
        refine J_istore (pc := 124) (ls' := [some (.ref 89), some (.int z22), none, some (.int (0 : Int32)), some (.int (0 : Int32)), none]) dX9_missing_124 (Nat.le_of_ble_eq_true rfl) rfl rfl ?_
        refine J_iconst (pc := 126) (v := (1 : Int32)) dX9_missing_126 (by decide) ?_
        refine J_istore (pc := 127) (ls' := [some (.ref 89), some (.int z22), none, some (.int (0 : Int32)), some (.int (0 : Int32)), some (.int (1 : Int32))]) dX9_missing_127 (Nat.le_of_ble_eq_true rfl) rfl rfl ?_
        refine tl_X9_missing_129 hG hn (fun z26 I27 => ?_) (fun z28 z29 z30 I31 => ?_) fuel z22 (0 : Int32) (0 : Int32) (1 : Int32) I23
        · refine J_iload (pc := 155) (x := z26) dX9_missing_155 rfl ?_
          exact J_iret (pc := 157) dX9_missing_157
        · refine J_iload_n (pc := 189) (x := z28) dX9_missing_189 rfl ?_
          refine J_iconst (pc := 190) (v := (-1 : Int32)) dX9_missing_190 (by decide) ?_
          refine J_icmp_ne (pc := 191) (tgt := 198) dX9_missing_191 (by decide) ?_ ?_
          · refine J_iload_n (pc := 194) (x := z29) dX9_missing_194 rfl ?_
            refine J_goto (pc := 195) (tgt := 211) dX9_missing_195 (by decide) ?_
            exact J_iret (pc := 211) dX9_missing_211
          · refine J_iload_n (pc := 198) (x := z28) dX9_missing_198 rfl ?_
            refine J_bipush (pc := 199) (v := (-2 : Int32)) dX9_missing_199 (by decide) ?_
            refine J_icmp_ne (pc := 201) (tgt := 209) dX9_missing_201 (by decide) ?_ ?_
            · refine J_iload (pc := 204) (x := z30) dX9_missing_204 rfl ?_
              refine J_goto (pc := 206) (tgt := 211) dX9_missing_206 (by decide) ?_
              exact J_iret (pc := 211) dX9_missing_211
            · refine J_bipush (pc := 209) (v := (-4 : Int32)) dX9_missing_209 (by decide) ?_
              exact J_iret (pc := 211) dX9_missing_211
  · refine J_iconst (pc := 6) (v := (-1 : Int32)) dX9_missing_6 (by decide) ?_
    exact J_iret (pc := 7) dX9_missing_7
