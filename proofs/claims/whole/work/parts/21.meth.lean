abbrev mu_X4_unitsFor (G : Gt) : Mt (Int32 × Mem) := mi G cX4_unitsFor 3 yX4_unitsFor.cls (some .int) 0 0
def b_X4_unitsFor_8 (K32 : Int32 → Mem → Option (Int32 × Mem)) (R : Int32 → Mem → Option (Int32 × Mem)) (x2 : Int32) (I : Mem) : Option (Int32 × Mem) :=
  (if (107 : Int32) ≤ x2 then K32 x2 I else ck (inb x2 108) <| (if (I 78 (tn x2)) = (-1 : Int32) then R (x2 + (1 : Int32)) I else K32 x2 I))
def l_X4_unitsFor_8 (K32 : Int32 → Mem → Option (Int32 × Mem)) : Nat → Int32 → Mem → Option (Int32 × Mem) := fx (b_X4_unitsFor_8 K32) (fun _ _ => none)
def f_X4_unitsFor (x1 : Int32) (I : Mem) : Option (Int32 × Mem) :=
  l_X4_unitsFor_8 (fun (z2 : Int32) I3 => some (z2, I3)) fuel (((x1 + (4 : Int32)) - (1 : Int32)) / (4 : Int32)) I
set_option maxRecDepth 100000 in
theorem tb_X4_unitsFor_8 {G : Gt} (hG : Gok G) (hn : Gn G) {K32 : Int32 → Mem → Option (Int32 × Mem)} (hK32 : ∀ (x2 : Int32) (I : Mem), J G (mu_X4_unitsFor G) 32 [none, none, some (.int x2)] [] I (K32 x2 I)) {R : Int32 → Mem → Option (Int32 × Mem)} (hR : ∀ (x2 : Int32) (I : Mem), J G (mu_X4_unitsFor G) 8 [some (.ref 76), none, some (.int x2)] [] I (R x2 I)) (x2 : Int32) (I : Mem) : J G (mu_X4_unitsFor G) 8 [some (.ref 76), none, some (.int x2)] [] I (b_X4_unitsFor_8 K32 R x2 I) := by
  unfold b_X4_unitsFor_8
  refine J_iload_n (pc := 8) (x := x2) dX4_unitsFor_8 rfl ?_
  refine J_bipush (pc := 9) (v := (107 : Int32)) dX4_unitsFor_9 (by decide) ?_
  refine J_icmp_ge (pc := 11) (tgt := 32) dX4_unitsFor_11 (by decide) ?_ ?_
  · refine J_weak (ls' := [none, none, some (.int x2)]) ⟨rfl, trivial⟩ ?_
    exact hK32 x2 I
  · refine J_aload_n (pc := 14) (x := 76) dX4_unitsFor_14 rfl ?_
    refine J_get (pc := 15) (t := 4) (k := 0) (.ref 77) (ok_c hn 76 (by decide) rfl) (by decide) rfl ingX4 (by decide) wd_152 rfl dX4_unitsFor_15 ?_
    refine J_iconst (pc := 18) (v := (0 : Int32)) dX4_unitsFor_18 (by decide) ?_
    refine J_lald (pc := 19) (ok_c hn 77 (by decide) rfl) (inb_in (by decide)) dX4_unitsFor_19 ?_
    refine J_iload_n (pc := 20) (x := x2) dX4_unitsFor_20 rfl ?_
    refine J_ck (fun hc1 => ?_)
    refine J_ild (pc := 21) (t := 22) (k := (tn x2)) (ok_c hn 78 (by decide) rfl) iT_22 (inb_in hc1) rfl dX4_unitsFor_21 ?_
    refine J_iconst (pc := 22) (v := (-1 : Int32)) dX4_unitsFor_22 (by decide) ?_
    refine J_icmp_ne (pc := 23) (tgt := 32) dX4_unitsFor_23 (by decide) ?_ ?_
    · refine J_iinc (pc := 26) (d := (1 : Int32)) (ls' := [some (.ref 76), none, some (.int (x2 + (1 : Int32)))]) dX4_unitsFor_26 (by decide) rfl (Nat.le_of_ble_eq_true rfl) rfl rfl ?_
      refine J_goto (pc := 29) (tgt := 8) dX4_unitsFor_29 (by decide) ?_
      exact hR (x2 + (1 : Int32)) I
    · refine J_weak (ls' := [none, none, some (.int x2)]) ⟨rfl, trivial⟩ ?_
      exact hK32 x2 I
theorem tl_X4_unitsFor_8 {G : Gt} (hG : Gok G) (hn : Gn G) {K32 : Int32 → Mem → Option (Int32 × Mem)} (hK32 : ∀ (x2 : Int32) (I : Mem), J G (mu_X4_unitsFor G) 32 [none, none, some (.int x2)] [] I (K32 x2 I)) (n : Nat) : ∀ (x2 : Int32) (I : Mem), J G (mu_X4_unitsFor G) 8 [some (.ref 76), none, some (.int x2)] [] I (l_X4_unitsFor_8 K32 n x2 I) := by
  induction n with
  | zero => intro x2 I; exact J_none
  | succ n ih => intro x2 I; exact tb_X4_unitsFor_8 hG hn hK32 ih x2 I
set_option maxRecDepth 100000 in
theorem c_X4_unitsFor {G : Gt} (hG : Gok G) (hn : Gn G) (x1 : Int32) (I : Mem) : Cti G yX4_unitsFor cX4_unitsFor 3 (some .int) 0 0 [.ref 76, .int x1] I (f_X4_unitsFor x1 I) := by
  refine Cti.of (ls := [some (.ref 76), some (.int x1), none]) 1 hG (by decide) rfl (Nat.le_of_ble_eq_true rfl) ?_
  unfold f_X4_unitsFor
  refine J_iload_n (pc := 0) (x := x1) dX4_unitsFor_0 rfl ?_
  refine J_iconst (pc := 1) (v := (4 : Int32)) dX4_unitsFor_1 (by decide) ?_
  refine J_iadd (pc := 2) dX4_unitsFor_2 ?_
  refine J_iconst (pc := 3) (v := (1 : Int32)) dX4_unitsFor_3 (by decide) ?_
  refine J_isub (pc := 4) dX4_unitsFor_4 ?_
  refine J_iconst (pc := 5) (v := (4 : Int32)) dX4_unitsFor_5 (by decide) ?_
  refine J_idiv (pc := 6) dX4_unitsFor_6 (by decide) ?_
  refine J_istore_n (pc := 7) (ls' := [some (.ref 76), some (.int x1), some (.int (((x1 + (4 : Int32)) - (1 : Int32)) / (4 : Int32)))]) dX4_unitsFor_7 (Nat.le_of_ble_eq_true rfl) rfl rfl ?_
  refine J_weak (ls' := [some (.ref 76), none, some (.int (((x1 + (4 : Int32)) - (1 : Int32)) / (4 : Int32)))]) ⟨rfl, rfl, trivial⟩ ?_
  refine tl_X4_unitsFor_8 hG hn (fun z2 I3 => ?_) fuel (((x1 + (4 : Int32)) - (1 : Int32)) / (4 : Int32)) I
  · refine J_iload_n (pc := 32) (x := z2) dX4_unitsFor_32 rfl ?_
    exact J_iret (pc := 33) dX4_unitsFor_33
abbrev mu_X4_mostOf_76_3 (G : Gt) : Mt (Int32 × Mem) := mi G cX4_mostOf 8 yX4_mostOf.cls (some .int) 1 21
def b_X4_mostOf_76_3_13 (K85 : Int32 → Mem → Option (Int32 × Mem)) (R : Int32 → Int32 → Int32 → Int32 → Int32 → Mem → Option (Int32 × Mem)) (x2 : Int32) (x3 : Int32) (x4 : Int32) (x5 : Int32) (x6 : Int32) (I : Mem) : Option (Int32 × Mem) :=
  (if x3 < x6 then K85 x5 I else (if x3 < (x6 * x4) then K85 x5 I else ck (inb (x2 + (1 : Int32)) 5) <| ck (inb (x3 - (x6 * x4)) 108) <| (if (I (78 + (tn (x2 + (1 : Int32)))) (tn (x3 - (x6 * x4)))) = (-1 : Int32) then R x2 x3 x4 x5 (x6 + (1 : Int32)) I else ck (inb x2 4) <| ck (inb x2 5) <| ck (inb x3 108) <| (if ((I (78 + (tn (x2 + (1 : Int32)))) (tn (x3 - (x6 * x4)))) + (x6 * (I 7 (tn x2)))) = (I (78 + (tn x2)) (tn x3)) then R x2 x3 x4 x6 (x6 + (1 : Int32)) I else R x2 x3 x4 x5 (x6 + (1 : Int32)) I))))
def l_X4_mostOf_76_3_13 (K85 : Int32 → Mem → Option (Int32 × Mem)) : Nat → Int32 → Int32 → Int32 → Int32 → Int32 → Mem → Option (Int32 × Mem) := fx (b_X4_mostOf_76_3_13 K85) (fun _ _ _ _ _ _ => none)
def f_X4_mostOf_76_3 (x2 : Int32) (x3 : Int32) (I : Mem) : Option (Int32 × Mem) :=
  bI (f_X7_unitsOf x2 I) fun r2 I1 => l_X4_mostOf_76_3_13 (fun (z8 : Int32) I9 => some (z8, I9)) fuel x2 x3 r2 (0 : Int32) (0 : Int32) I1
set_option maxRecDepth 100000 in
theorem tb_X4_mostOf_76_3_13 {G : Gt} (hG : Gok G) (hn : Gn G) {K85 : Int32 → Mem → Option (Int32 × Mem)} (hK85 : ∀ (x5 : Int32) (I : Mem), J G (mu_X4_mostOf_76_3 G) 85 [none, none, none, none, none, some (.int x5), none, none] [] I (K85 x5 I)) {R : Int32 → Int32 → Int32 → Int32 → Int32 → Mem → Option (Int32 × Mem)} (hR : ∀ (x2 : Int32) (x3 : Int32) (x4 : Int32) (x5 : Int32) (x6 : Int32) (I : Mem), J G (mu_X4_mostOf_76_3 G) 13 [some (.ref 76), some (.ref 3), some (.int x2), some (.int x3), some (.int x4), some (.int x5), some (.int x6), none] [] I (R x2 x3 x4 x5 x6 I)) (x2 : Int32) (x3 : Int32) (x4 : Int32) (x5 : Int32) (x6 : Int32) (I : Mem) : J G (mu_X4_mostOf_76_3 G) 13 [some (.ref 76), some (.ref 3), some (.int x2), some (.int x3), some (.int x4), some (.int x5), some (.int x6), none] [] I (b_X4_mostOf_76_3_13 K85 R x2 x3 x4 x5 x6 I) := by
  unfold b_X4_mostOf_76_3_13
  refine J_iload (pc := 13) (x := x6) dX4_mostOf_13 rfl ?_
  refine J_iload_n (pc := 15) (x := x3) dX4_mostOf_15 rfl ?_
  refine J_icmp_gt (pc := 16) (tgt := 85) dX4_mostOf_16 (by decide) ?_ ?_
  · refine J_weak (ls' := [none, none, none, none, none, some (.int x5), none, none]) ⟨rfl, trivial⟩ ?_
    exact hK85 x5 I
  · refine J_iload (pc := 19) (x := x6) dX4_mostOf_19 rfl ?_
    refine J_iload (pc := 21) (x := x4) dX4_mostOf_21 rfl ?_
    refine J_imul (pc := 23) dX4_mostOf_23 ?_
    refine J_iload_n (pc := 24) (x := x3) dX4_mostOf_24 rfl ?_
    refine J_icmp_gt (pc := 25) (tgt := 85) dX4_mostOf_25 (by decide) ?_ ?_
    · refine J_weak (ls' := [none, none, none, none, none, some (.int x5), none, none]) ⟨rfl, trivial⟩ ?_
      exact hK85 x5 I
    · refine J_aload_n (pc := 28) (x := 76) dX4_mostOf_28 rfl ?_
      refine J_get (pc := 29) (t := 4) (k := 0) (.ref 77) (ok_c hn 76 (by decide) rfl) (by decide) rfl ingX4 (by decide) wd_152 rfl dX4_mostOf_29 ?_
      refine J_iload_n (pc := 32) (x := x2) dX4_mostOf_32 rfl ?_
      refine J_iconst (pc := 33) (v := (1 : Int32)) dX4_mostOf_33 (by decide) ?_
      refine J_iadd (pc := 34) dX4_mostOf_34 ?_
      refine J_ck (fun hc3 => ?_)
      refine J_lald (pc := 35) (ok_c hn 77 (by decide) rfl) (inb_in hc3) dX4_mostOf_35 ?_
      refine J_iload_n (pc := 36) (x := x3) dX4_mostOf_36 rfl ?_
      refine J_iload (pc := 37) (x := x6) dX4_mostOf_37 rfl ?_
      refine J_iload (pc := 39) (x := x4) dX4_mostOf_39 rfl ?_
      refine J_imul (pc := 41) dX4_mostOf_41 ?_
      refine J_isub (pc := 42) dX4_mostOf_42 ?_
      refine J_ck (fun hc4 => ?_)
      refine J_ild (pc := 43) (t := 22) (k := (tn (x3 - (x6 * x4)))) (ok_least hn hc3) iT_22 (inb_in hc4) rfl dX4_mostOf_43 ?_
      refine J_istore (pc := 44) (ls' := [some (.ref 76), some (.ref 3), some (.int x2), some (.int x3), some (.int x4), some (.int x5), some (.int x6), some (.int (I (78 + (tn (x2 + (1 : Int32)))) (tn (x3 - (x6 * x4)))))]) dX4_mostOf_44 (Nat.le_of_ble_eq_true rfl) rfl rfl ?_
      refine J_iload (pc := 46) (x := (I (78 + (tn (x2 + (1 : Int32)))) (tn (x3 - (x6 * x4))))) dX4_mostOf_46 rfl ?_
      refine J_iconst (pc := 48) (v := (-1 : Int32)) dX4_mostOf_48 (by decide) ?_
      refine J_icmp_eq (pc := 49) (tgt := 79) dX4_mostOf_49 (by decide) ?_ ?_
      · refine J_iinc (pc := 79) (d := (1 : Int32)) (ls' := [some (.ref 76), some (.ref 3), some (.int x2), some (.int x3), some (.int x4), some (.int x5), some (.int (x6 + (1 : Int32))), some (.int (I (78 + (tn (x2 + (1 : Int32)))) (tn (x3 - (x6 * x4)))))]) dX4_mostOf_79 (by decide) rfl (Nat.le_of_ble_eq_true rfl) rfl rfl ?_
        refine J_goto (pc := 82) (tgt := 13) dX4_mostOf_82 (by decide) ?_
        refine J_weak (ls' := [some (.ref 76), some (.ref 3), some (.int x2), some (.int x3), some (.int x4), some (.int x5), some (.int (x6 + (1 : Int32))), none]) ⟨rfl, rfl, rfl, rfl, rfl, rfl, rfl, trivial⟩ ?_
        exact hR x2 x3 x4 x5 (x6 + (1 : Int32)) I
      · refine J_iload (pc := 52) (x := (I (78 + (tn (x2 + (1 : Int32)))) (tn (x3 - (x6 * x4))))) dX4_mostOf_52 rfl ?_
        refine J_iload (pc := 54) (x := x6) dX4_mostOf_54 rfl ?_
        refine J_aload_n (pc := 56) (x := 3) dX4_mostOf_56 rfl ?_
        refine J_get (pc := 57) (t := 7) (k := 4) (.ref 7) (ok_c hn 3 (by decide) rfl) (by decide) rfl ingX7 (by decide) wd_158 rfl dX4_mostOf_57 ?_
        refine J_iload_n (pc := 60) (x := x2) dX4_mostOf_60 rfl ?_
        refine J_ck (fun hc5 => ?_)
        refine J_ild (pc := 61) (t := 14) (k := (tn x2)) (ok_c hn 7 (by decide) rfl) iT_14 (inb_in hc5) rfl dX4_mostOf_61 ?_
        refine J_imul (pc := 62) dX4_mostOf_62 ?_
        refine J_iadd (pc := 63) dX4_mostOf_63 ?_
        refine J_aload_n (pc := 64) (x := 76) dX4_mostOf_64 rfl ?_
        refine J_get (pc := 65) (t := 4) (k := 0) (.ref 77) (ok_c hn 76 (by decide) rfl) (by decide) rfl ingX4 (by decide) wd_152 rfl dX4_mostOf_65 ?_
        refine J_iload_n (pc := 68) (x := x2) dX4_mostOf_68 rfl ?_
        refine J_ck (fun hc6 => ?_)
        refine J_lald (pc := 69) (ok_c hn 77 (by decide) rfl) (inb_in hc6) dX4_mostOf_69 ?_
        refine J_iload_n (pc := 70) (x := x3) dX4_mostOf_70 rfl ?_
        refine J_ck (fun hc7 => ?_)
        refine J_ild (pc := 71) (t := 22) (k := (tn x3)) (ok_least hn hc6) iT_22 (inb_in hc7) rfl dX4_mostOf_71 ?_
        refine J_icmp_ne (pc := 72) (tgt := 79) dX4_mostOf_72 (by decide) ?_ ?_
        · refine J_iload (pc := 75) (x := x6) dX4_mostOf_75 rfl ?_
          refine J_istore (pc := 77) (ls' := [some (.ref 76), some (.ref 3), some (.int x2), some (.int x3), some (.int x4), some (.int x6), some (.int x6), some (.int (I (78 + (tn (x2 + (1 : Int32)))) (tn (x3 - (x6 * x4)))))]) dX4_mostOf_77 (Nat.le_of_ble_eq_true rfl) rfl rfl ?_
          refine J_iinc (pc := 79) (d := (1 : Int32)) (ls' := [some (.ref 76), some (.ref 3), some (.int x2), some (.int x3), some (.int x4), some (.int x6), some (.int (x6 + (1 : Int32))), some (.int (I (78 + (tn (x2 + (1 : Int32)))) (tn (x3 - (x6 * x4)))))]) dX4_mostOf_79 (by decide) rfl (Nat.le_of_ble_eq_true rfl) rfl rfl ?_
          refine J_goto (pc := 82) (tgt := 13) dX4_mostOf_82 (by decide) ?_
          refine J_weak (ls' := [some (.ref 76), some (.ref 3), some (.int x2), some (.int x3), some (.int x4), some (.int x6), some (.int (x6 + (1 : Int32))), none]) ⟨rfl, rfl, rfl, rfl, rfl, rfl, rfl, trivial⟩ ?_
          exact hR x2 x3 x4 x6 (x6 + (1 : Int32)) I
        · refine J_iinc (pc := 79) (d := (1 : Int32)) (ls' := [some (.ref 76), some (.ref 3), some (.int x2), some (.int x3), some (.int x4), some (.int x5), some (.int (x6 + (1 : Int32))), some (.int (I (78 + (tn (x2 + (1 : Int32)))) (tn (x3 - (x6 * x4)))))]) dX4_mostOf_79 (by decide) rfl (Nat.le_of_ble_eq_true rfl) rfl rfl ?_
          refine J_goto (pc := 82) (tgt := 13) dX4_mostOf_82 (by decide) ?_
          refine J_weak (ls' := [some (.ref 76), some (.ref 3), some (.int x2), some (.int x3), some (.int x4), some (.int x5), some (.int (x6 + (1 : Int32))), none]) ⟨rfl, rfl, rfl, rfl, rfl, rfl, rfl, trivial⟩ ?_
          exact hR x2 x3 x4 x5 (x6 + (1 : Int32)) I
theorem tl_X4_mostOf_76_3_13 {G : Gt} (hG : Gok G) (hn : Gn G) {K85 : Int32 → Mem → Option (Int32 × Mem)} (hK85 : ∀ (x5 : Int32) (I : Mem), J G (mu_X4_mostOf_76_3 G) 85 [none, none, none, none, none, some (.int x5), none, none] [] I (K85 x5 I)) (n : Nat) : ∀ (x2 : Int32) (x3 : Int32) (x4 : Int32) (x5 : Int32) (x6 : Int32) (I : Mem), J G (mu_X4_mostOf_76_3 G) 13 [some (.ref 76), some (.ref 3), some (.int x2), some (.int x3), some (.int x4), some (.int x5), some (.int x6), none] [] I (l_X4_mostOf_76_3_13 K85 n x2 x3 x4 x5 x6 I) := by
  induction n with
  | zero => intro x2 x3 x4 x5 x6 I; exact J_none
  | succ n ih => intro x2 x3 x4 x5 x6 I; exact tb_X4_mostOf_76_3_13 hG hn hK85 ih x2 x3 x4 x5 x6 I
set_option maxRecDepth 100000 in
theorem c_X4_mostOf_76_3 {G : Gt} (hG : Gok G) (hn : Gn G) (x2 : Int32) (x3 : Int32) (I : Mem) : Cti G yX4_mostOf cX4_mostOf 8 (some .int) 1 21 [.ref 76, .ref 3, .int x2, .int x3] I (f_X4_mostOf_76_3 x2 x3 I) := by
  refine Cti.of (ls := [some (.ref 76), some (.ref 3), some (.int x2), some (.int x3), none, none, none, none]) 4 hG (by decide) rfl (Nat.le_of_ble_eq_true rfl) ?_
  unfold f_X4_mostOf_76_3
  refine J_aload_n (pc := 0) (x := 3) dX4_mostOf_0 rfl ?_
  refine J_iload_n (pc := 1) (x := x2) dX4_mostOf_1 rfl ?_
  refine J_callVi (pc := 2) (t := 7) (as := [.int x2]) (st := []) (c_X7_unitsOf hG hn x2 I) (ok_c hn 3 (by decide) rfl) (by decide) rfl (cw_RX4_52 rfl) wd_155 wd_154 rfl ⟨Nat.le_of_ble_eq_true rfl, Nat.le_of_ble_eq_true rfl, Nat.le_of_ble_eq_true rfl, Nat.le_of_ble_eq_true rfl⟩ (Nat.le_of_ble_eq_true rfl) rfl dX4_mostOf_2 (fun r2 I1 => ?_)
  refine J_istore (pc := 5) (ls' := [some (.ref 76), some (.ref 3), some (.int x2), some (.int x3), some (.int r2), none, none, none]) dX4_mostOf_5 (Nat.le_of_ble_eq_true rfl) rfl rfl ?_
  refine J_iconst (pc := 7) (v := (0 : Int32)) dX4_mostOf_7 (by decide) ?_
  refine J_istore (pc := 8) (ls' := [some (.ref 76), some (.ref 3), some (.int x2), some (.int x3), some (.int r2), some (.int (0 : Int32)), none, none]) dX4_mostOf_8 (Nat.le_of_ble_eq_true rfl) rfl rfl ?_
  refine J_iconst (pc := 10) (v := (0 : Int32)) dX4_mostOf_10 (by decide) ?_
  refine J_istore (pc := 11) (ls' := [some (.ref 76), some (.ref 3), some (.int x2), some (.int x3), some (.int r2), some (.int (0 : Int32)), some (.int (0 : Int32)), none]) dX4_mostOf_11 (Nat.le_of_ble_eq_true rfl) rfl rfl ?_
  refine tl_X4_mostOf_76_3_13 hG hn (fun z8 I9 => ?_) fuel x2 x3 r2 (0 : Int32) (0 : Int32) I1
  · refine J_iload (pc := 85) (x := z8) dX4_mostOf_85 rfl ?_
    exact J_iret (pc := 87) dX4_mostOf_87
abbrev mu_X4_choose_76_3 (G : Gt) : Mt Mem := mv G cX4_choose 5 yX4_choose.cls 2 48
def b_X4_choose_76_3_5 (K52 : Mem → Option Mem) (R : Int32 → Int32 → Mem → Option Mem) (x3 : Int32) (x4 : Int32) (I : Mem) : Option Mem :=
  (if (I 3 0) ≤ x4 then K52 I else bI (f_X4_mostOf_76_3 x4 x3 I) fun r2 I1 => ck (inb x4 4) <| ck (inb x4 4) <| bI (f_X7_unitsOf x4 (stm I1 83 (tn x4) r2)) fun r6 I5 => R (x3 - (((stm I1 83 (tn x4) r2) 83 (tn x4)) * r6)) (x4 + (1 : Int32)) I5)
def l_X4_choose_76_3_5 (K52 : Mem → Option Mem) : Nat → Int32 → Int32 → Mem → Option Mem := fx (b_X4_choose_76_3_5 K52) (fun _ _ _ => none)
def f_X4_choose_76_3 (x2 : Int32) (I : Mem) : Option Mem :=
  l_X4_choose_76_3_5 (fun I7 => some I7) fuel x2 (0 : Int32) I
set_option maxRecDepth 100000 in
theorem tb_X4_choose_76_3_5 {G : Gt} (hG : Gok G) (hn : Gn G) {K52 : Mem → Option Mem} (hK52 : ∀ (I : Mem), J G (mu_X4_choose_76_3 G) 52 [none, none, none, none, none] [] I (K52 I)) {R : Int32 → Int32 → Mem → Option Mem} (hR : ∀ (x3 : Int32) (x4 : Int32) (I : Mem), J G (mu_X4_choose_76_3 G) 5 [some (.ref 76), some (.ref 3), none, some (.int x3), some (.int x4)] [] I (R x3 x4 I)) (x3 : Int32) (x4 : Int32) (I : Mem) : J G (mu_X4_choose_76_3 G) 5 [some (.ref 76), some (.ref 3), none, some (.int x3), some (.int x4)] [] I (b_X4_choose_76_3_5 K52 R x3 x4 I) := by
  unfold b_X4_choose_76_3_5
  refine J_iload (pc := 5) (x := x4) dX4_choose_5 rfl ?_
  refine J_aload_n (pc := 7) (x := 3) dX4_choose_7 rfl ?_
  refine J_get (pc := 8) (t := 7) (k := 0) (.int (I 3 0)) (ok_c hn 3 (by decide) rfl) (by decide) rfl ingX7 (by decide) wd_153 rfl dX4_choose_8 ?_
  refine J_icmp_ge (pc := 11) (tgt := 52) dX4_choose_11 (by decide) ?_ ?_
  · refine J_weak (ls' := [none, none, none, none, none]) trivial ?_
    exact hK52 I
  · refine J_aload_n (pc := 14) (x := 76) dX4_choose_14 rfl ?_
    refine J_get (pc := 15) (t := 4) (k := 1) (.ref 83) (ok_c hn 76 (by decide) rfl) (by decide) rfl ingX4 (by decide) wd_178 rfl dX4_choose_15 ?_
    refine J_iload (pc := 18) (x := x4) dX4_choose_18 rfl ?_
    refine J_aload_n (pc := 20) (x := 76) dX4_choose_20 rfl ?_
    refine J_aload_n (pc := 21) (x := 3) dX4_choose_21 rfl ?_
    refine J_iload (pc := 22) (x := x4) dX4_choose_22 rfl ?_
    refine J_iload_n (pc := 24) (x := x3) dX4_choose_24 rfl ?_
    refine J_callVi (pc := 25) (t := 4) (as := [.ref 3, .int x4, .int x3]) (st := [.int x4, .ref 83]) (c_X4_mostOf_76_3 hG hn x4 x3 I) (ok_c hn 76 (by decide) rfl) (by decide) rfl (cw_RX4_63 rfl) wd_180 wd_179 rfl ⟨Nat.le_of_ble_eq_true rfl, Nat.le_of_ble_eq_true rfl, Nat.le_of_ble_eq_true rfl, Nat.le_of_ble_eq_true rfl⟩ (Nat.le_of_ble_eq_true rfl) rfl dX4_choose_25 (fun r2 I1 => ?_)
    refine J_ck (fun hc3 => ?_)
    refine J_ist (pc := 28) (t := 23) (k := (tn x4)) (ok_c hn 83 (by decide) rfl) iT_23 (inb_in hc3) rfl dX4_choose_28 ?_
    refine J_iload_n (pc := 29) (x := x3) dX4_choose_29 rfl ?_
    refine J_aload_n (pc := 30) (x := 76) dX4_choose_30 rfl ?_
    refine J_get (pc := 31) (t := 4) (k := 1) (.ref 83) (ok_c hn 76 (by decide) rfl) (by decide) rfl ingX4 (by decide) wd_178 rfl dX4_choose_31 ?_
    refine J_iload (pc := 34) (x := x4) dX4_choose_34 rfl ?_
    refine J_ck (fun hc4 => ?_)
    refine J_ild (pc := 36) (t := 23) (k := (tn x4)) (ok_c hn 83 (by decide) rfl) iT_23 (inb_in hc4) rfl dX4_choose_36 ?_
    refine J_aload_n (pc := 37) (x := 3) dX4_choose_37 rfl ?_
    refine J_iload (pc := 38) (x := x4) dX4_choose_38 rfl ?_
    refine J_callVi (pc := 40) (t := 7) (as := [.int x4]) (st := [.int ((stm I1 83 (tn x4) r2) 83 (tn x4)), .int x3]) (c_X7_unitsOf hG hn x4 (stm I1 83 (tn x4) r2)) (ok_c hn 3 (by decide) rfl) (by decide) rfl (cw_RX4_52 rfl) wd_155 wd_154 rfl ⟨Nat.le_of_ble_eq_true rfl, Nat.le_of_ble_eq_true rfl, Nat.le_of_ble_eq_true rfl, Nat.le_of_ble_eq_true rfl⟩ (Nat.le_of_ble_eq_true rfl) rfl dX4_choose_40 (fun r6 I5 => ?_)
    refine J_imul (pc := 43) dX4_choose_43 ?_
    refine J_isub (pc := 44) dX4_choose_44 ?_
    refine J_istore_n (pc := 45) (ls' := [some (.ref 76), some (.ref 3), none, some (.int (x3 - (((stm I1 83 (tn x4) r2) 83 (tn x4)) * r6))), some (.int x4)]) dX4_choose_45 (Nat.le_of_ble_eq_true rfl) rfl rfl ?_
    refine J_iinc (pc := 46) (d := (1 : Int32)) (ls' := [some (.ref 76), some (.ref 3), none, some (.int (x3 - (((stm I1 83 (tn x4) r2) 83 (tn x4)) * r6))), some (.int (x4 + (1 : Int32)))]) dX4_choose_46 (by decide) rfl (Nat.le_of_ble_eq_true rfl) rfl rfl ?_
    refine J_goto (pc := 49) (tgt := 5) dX4_choose_49 (by decide) ?_
    exact hR (x3 - (((stm I1 83 (tn x4) r2) 83 (tn x4)) * r6)) (x4 + (1 : Int32)) I5
theorem tl_X4_choose_76_3_5 {G : Gt} (hG : Gok G) (hn : Gn G) {K52 : Mem → Option Mem} (hK52 : ∀ (I : Mem), J G (mu_X4_choose_76_3 G) 52 [none, none, none, none, none] [] I (K52 I)) (n : Nat) : ∀ (x3 : Int32) (x4 : Int32) (I : Mem), J G (mu_X4_choose_76_3 G) 5 [some (.ref 76), some (.ref 3), none, some (.int x3), some (.int x4)] [] I (l_X4_choose_76_3_5 K52 n x3 x4 I) := by
  induction n with
  | zero => intro x3 x4 I; exact J_none
  | succ n ih => intro x3 x4 I; exact tb_X4_choose_76_3_5 hG hn hK52 ih x3 x4 I
set_option maxRecDepth 100000 in
theorem c_X4_choose_76_3 {G : Gt} (hG : Gok G) (hn : Gn G) (x2 : Int32) (I : Mem) : Ctv G yX4_choose cX4_choose 5 2 48 [.ref 76, .ref 3, .int x2] I (f_X4_choose_76_3 x2 I) := by
  refine Ctv.of (ls := [some (.ref 76), some (.ref 3), some (.int x2), none, none]) 2 hG (by decide) rfl (Nat.le_of_ble_eq_true rfl) ?_
  unfold f_X4_choose_76_3
  refine J_iload_n (pc := 0) (x := x2) dX4_choose_0 rfl ?_
  refine J_istore_n (pc := 1) (ls' := [some (.ref 76), some (.ref 3), some (.int x2), some (.int x2), none]) dX4_choose_1 (Nat.le_of_ble_eq_true rfl) rfl rfl ?_
  refine J_iconst (pc := 2) (v := (0 : Int32)) dX4_choose_2 (by decide) ?_
  refine J_istore (pc := 3) (ls' := [some (.ref 76), some (.ref 3), some (.int x2), some (.int x2), some (.int (0 : Int32))]) dX4_choose_3 (Nat.le_of_ble_eq_true rfl) rfl rfl ?_
  refine J_weak (ls' := [some (.ref 76), some (.ref 3), none, some (.int x2), some (.int (0 : Int32))]) ⟨rfl, rfl, rfl, rfl, trivial⟩ ?_
  refine tl_X4_choose_76_3_5 hG hn (fun I7 => ?_) fuel x2 (0 : Int32) I
  · exact J_vret (pc := 52) dX4_choose_52
abbrev mu_X4_make_76_3 (G : Gt) : Mt Mem := mv G cX4_make 3 yX4_make.cls 3 72
def f_X4_make_76_3 (I : Mem) : Option Mem :=
  bV (f_X4_weigh_76_3 I) fun I1 => bI (f_X4_unitsFor (I1 4 0) I1) fun r3 I2 => ck (inb r3 108) <| bV (f_X4_choose_76_3 r3 (stm I2 76 2 (I2 78 (tn r3)))) fun I5 => some I5
set_option maxRecDepth 100000 in
theorem c_X4_make_76_3 {G : Gt} (hG : Gok G) (hn : Gn G) (I : Mem) : Ctv G yX4_make cX4_make 3 3 72 [.ref 76, .ref 3] I (f_X4_make_76_3 I) := by
  refine Ctv.of (ls := [some (.ref 76), some (.ref 3), none]) 1 hG (by decide) rfl (Nat.le_of_ble_eq_true rfl) ?_
  unfold f_X4_make_76_3
  refine J_aload_n (pc := 0) (x := 76) dX4_make_0 rfl ?_
  refine J_aload_n (pc := 1) (x := 3) dX4_make_1 rfl ?_
  refine J_callVv (pc := 2) (t := 4) (as := [.ref 3]) (st := []) (c_X4_weigh_76_3 hG hn I) (ok_c hn 76 (by decide) rfl) (by decide) rfl (cw_RX4_20 rfl) wd_169 wd_168 rfl ⟨Nat.le_of_ble_eq_true rfl, Nat.le_of_ble_eq_true rfl, Nat.le_of_ble_eq_true rfl, Nat.le_of_ble_eq_true rfl⟩ (Nat.le_of_ble_eq_true rfl) rfl dX4_make_2 (fun I1 => ?_)
  refine J_aload_n (pc := 5) (x := 76) dX4_make_5 rfl ?_
  refine J_aload_n (pc := 6) (x := 3) dX4_make_6 rfl ?_
  refine J_get (pc := 7) (t := 7) (k := 1) (.ref 4) (ok_c hn 3 (by decide) rfl) (by decide) rfl ingX7 (by decide) wd_172 rfl dX4_make_7 ?_
  refine J_iconst (pc := 10) (v := (0 : Int32)) dX4_make_10 (by decide) ?_
  refine J_ild (pc := 11) (t := 11) (k := 0) (ok_c hn 4 (by decide) rfl) iT_11 (inb_in (by decide)) (by decide) dX4_make_11 ?_
  refine J_callVi (pc := 12) (t := 4) (as := [.int (I1 4 0)]) (st := []) (c_X4_unitsFor hG hn (I1 4 0) I1) (ok_c hn 76 (by decide) rfl) (by decide) rfl (cw_RX4_29 rfl) wd_174 wd_173 rfl ⟨Nat.le_of_ble_eq_true rfl, Nat.le_of_ble_eq_true rfl, Nat.le_of_ble_eq_true rfl, Nat.le_of_ble_eq_true rfl⟩ (Nat.le_of_ble_eq_true rfl) rfl dX4_make_12 (fun r3 I2 => ?_)
  refine J_istore_n (pc := 15) (ls' := [some (.ref 76), some (.ref 3), some (.int r3)]) dX4_make_15 (Nat.le_of_ble_eq_true rfl) rfl rfl ?_
  refine J_aload_n (pc := 16) (x := 76) dX4_make_16 rfl ?_
  refine J_aload_n (pc := 17) (x := 76) dX4_make_17 rfl ?_
  refine J_get (pc := 18) (t := 4) (k := 0) (.ref 77) (ok_c hn 76 (by decide) rfl) (by decide) rfl ingX4 (by decide) wd_152 rfl dX4_make_18 ?_
  refine J_iconst (pc := 21) (v := (0 : Int32)) dX4_make_21 (by decide) ?_
  refine J_lald (pc := 22) (ok_c hn 77 (by decide) rfl) (inb_in (by decide)) dX4_make_22 ?_
  refine J_iload_n (pc := 23) (x := r3) dX4_make_23 rfl ?_
  refine J_ck (fun hc4 => ?_)
  refine J_ild (pc := 24) (t := 22) (k := (tn r3)) (ok_c hn 78 (by decide) rfl) iT_22 (inb_in hc4) rfl dX4_make_24 ?_
  refine J_put (pc := 25) (t := 4) (k := 2) (ok_c hn 76 (by decide) rfl) (by decide) rfl ingX4 tyX4 tyX4_ok nmX4 (by decide) wd_177 rfl pfI (Nat.le_of_ble_eq_true rfl) rfl dX4_make_25 ?_
  refine J_aload_n (pc := 28) (x := 76) dX4_make_28 rfl ?_
  refine J_aload_n (pc := 29) (x := 3) dX4_make_29 rfl ?_
  refine J_iload_n (pc := 30) (x := r3) dX4_make_30 rfl ?_
  refine J_callVv (pc := 31) (t := 4) (as := [.ref 3, .int r3]) (st := []) (c_X4_choose_76_3 hG hn r3 (stm I2 76 2 (I2 78 (tn r3)))) (ok_c hn 76 (by decide) rfl) (by decide) rfl (cw_RX4_37 rfl) wd_184 wd_183 rfl ⟨Nat.le_of_ble_eq_true rfl, Nat.le_of_ble_eq_true rfl, Nat.le_of_ble_eq_true rfl, Nat.le_of_ble_eq_true rfl⟩ (Nat.le_of_ble_eq_true rfl) rfl dX4_make_31 (fun I5 => ?_)
  exact J_vret (pc := 34) dX4_make_34
abbrev mu_X7_pagesOf (G : Gt) : Mt (Int32 × Mem) := mi G cX7_pagesOf 2 yX7_pagesOf.cls (some .int) 0 0
def f_X7_pagesOf (x1 : Int32) (I : Mem) : Option (Int32 × Mem) :=
  ck (inb x1 4) <| some (((2 : Int32) <<< ((I 5 (tn x1)) &&& 31)), I)
set_option maxRecDepth 100000 in
theorem c_X7_pagesOf {G : Gt} (hG : Gok G) (hn : Gn G) (x1 : Int32) (I : Mem) : Cti G yX7_pagesOf cX7_pagesOf 2 (some .int) 0 0 [.ref 3, .int x1] I (f_X7_pagesOf x1 I) := by
  refine Cti.of (ls := [some (.ref 3), some (.int x1)]) 0 hG (by decide) rfl (Nat.le_of_ble_eq_true rfl) ?_
  unfold f_X7_pagesOf
  refine J_iconst (pc := 0) (v := (2 : Int32)) dX7_pagesOf_0 (by decide) ?_
  refine J_aload_n (pc := 1) (x := 3) dX7_pagesOf_1 rfl ?_
  refine J_get (pc := 2) (t := 7) (k := 2) (.ref 5) (ok_c hn 3 (by decide) rfl) (by decide) rfl ingX7 (by decide) wd_34 rfl dX7_pagesOf_2 ?_
  refine J_iload_n (pc := 5) (x := x1) dX7_pagesOf_5 rfl ?_
  refine J_ck (fun hc1 => ?_)
  refine J_ild (pc := 6) (t := 12) (k := (tn x1)) (ok_c hn 5 (by decide) rfl) iT_12 (inb_in hc1) rfl dX7_pagesOf_6 ?_
  refine J_ishl (pc := 7) dX7_pagesOf_7 ?_
  exact J_iret (pc := 8) dX7_pagesOf_8
abbrev mu_X0_addSheet (G : Gt) : Mt Mem := mv G cX0_addSheet 3 yX0_addSheet.cls 0 0
def f_X0_addSheet (x1 : Int32) (x2 : Int32) (I : Mem) : Option Mem :=
  (if (100 : Int32) ≤ (I 84 0) then some I else (if (432 : Int32) < ((I 84 1) + x2) then some I else ck (inb (I 84 0) 100) <| ck (inb ((stm I 85 (tn (I 84 0)) x1) 84 0) 100) <| some (stm (stm (stm (stm I 85 (tn (I 84 0)) x1) 86 (tn ((stm I 85 (tn (I 84 0)) x1) 84 0)) ((stm I 85 (tn (I 84 0)) x1) 84 1)) 84 0 (((stm (stm I 85 (tn (I 84 0)) x1) 86 (tn ((stm I 85 (tn (I 84 0)) x1) 84 0)) ((stm I 85 (tn (I 84 0)) x1) 84 1)) 84 0) + (1 : Int32))) 84 1 (((stm (stm (stm I 85 (tn (I 84 0)) x1) 86 (tn ((stm I 85 (tn (I 84 0)) x1) 84 0)) ((stm I 85 (tn (I 84 0)) x1) 84 1)) 84 0 (((stm (stm I 85 (tn (I 84 0)) x1) 86 (tn ((stm I 85 (tn (I 84 0)) x1) 84 0)) ((stm I 85 (tn (I 84 0)) x1) 84 1)) 84 0) + (1 : Int32))) 84 1) + x2))))
set_option maxRecDepth 100000 in
theorem c_X0_addSheet {G : Gt} (hG : Gok G) (hn : Gn G) (x1 : Int32) (x2 : Int32) (I : Mem) : Ctv G yX0_addSheet cX0_addSheet 3 0 0 [.ref 84, .int x1, .int x2] I (f_X0_addSheet x1 x2 I) := by
  refine Ctv.of (ls := [some (.ref 84), some (.int x1), some (.int x2)]) 0 hG (by decide) rfl (Nat.le_of_ble_eq_true rfl) ?_
  unfold f_X0_addSheet
  refine J_aload_n (pc := 0) (x := 84) dX0_addSheet_0 rfl ?_
  refine J_get (pc := 1) (t := 0) (k := 0) (.int (I 84 0)) (ok_c hn 84 (by decide) rfl) (by decide) rfl ingX0 (by decide) wd_192 rfl dX0_addSheet_1 ?_
  refine J_bipush (pc := 4) (v := (100 : Int32)) dX0_addSheet_4 (by decide) ?_
  refine J_icmp_ge (pc := 6) (tgt := 64) dX0_addSheet_6 (by decide) ?_ ?_
  · exact J_vret (pc := 64) dX0_addSheet_64
  · refine J_aload_n (pc := 9) (x := 84) dX0_addSheet_9 rfl ?_
    refine J_get (pc := 10) (t := 0) (k := 1) (.int (I 84 1)) (ok_c hn 84 (by decide) rfl) (by decide) rfl ingX0 (by decide) wd_193 rfl dX0_addSheet_10 ?_
    refine J_iload_n (pc := 13) (x := x2) dX0_addSheet_13 rfl ?_
    refine J_iadd (pc := 14) dX0_addSheet_14 ?_
    refine J_sipush (pc := 15) (v := (432 : Int32)) dX0_addSheet_15 (by decide) ?_
    refine J_icmp_gt (pc := 18) (tgt := 64) dX0_addSheet_18 (by decide) ?_ ?_
    · exact J_vret (pc := 64) dX0_addSheet_64
    · refine J_aload_n (pc := 21) (x := 84) dX0_addSheet_21 rfl ?_
      refine J_get (pc := 22) (t := 0) (k := 2) (.ref 85) (ok_c hn 84 (by decide) rfl) (by decide) rfl ingX0 (by decide) wd_200 rfl dX0_addSheet_22 ?_
      refine J_aload_n (pc := 25) (x := 84) dX0_addSheet_25 rfl ?_
      refine J_get (pc := 26) (t := 0) (k := 0) (.int (I 84 0)) (ok_c hn 84 (by decide) rfl) (by decide) rfl ingX0 (by decide) wd_192 rfl dX0_addSheet_26 ?_
      refine J_iload_n (pc := 29) (x := x1) dX0_addSheet_29 rfl ?_
      refine J_ck (fun hc1 => ?_)
      refine J_ist (pc := 30) (t := 24) (k := (tn (I 84 0))) (ok_c hn 85 (by decide) rfl) iT_24 (inb_in hc1) rfl dX0_addSheet_30 ?_
      refine J_aload_n (pc := 31) (x := 84) dX0_addSheet_31 rfl ?_
      refine J_get (pc := 32) (t := 0) (k := 3) (.ref 86) (ok_c hn 84 (by decide) rfl) (by decide) rfl ingX0 (by decide) wd_201 rfl dX0_addSheet_32 ?_
      refine J_aload_n (pc := 35) (x := 84) dX0_addSheet_35 rfl ?_
      refine J_get (pc := 36) (t := 0) (k := 0) (.int ((stm I 85 (tn (I 84 0)) x1) 84 0)) (ok_c hn 84 (by decide) rfl) (by decide) rfl ingX0 (by decide) wd_192 rfl dX0_addSheet_36 ?_
      refine J_aload_n (pc := 39) (x := 84) dX0_addSheet_39 rfl ?_
      refine J_get (pc := 40) (t := 0) (k := 1) (.int ((stm I 85 (tn (I 84 0)) x1) 84 1)) (ok_c hn 84 (by decide) rfl) (by decide) rfl ingX0 (by decide) wd_193 rfl dX0_addSheet_40 ?_
      refine J_ck (fun hc2 => ?_)
      refine J_ist (pc := 43) (t := 25) (k := (tn ((stm I 85 (tn (I 84 0)) x1) 84 0))) (ok_c hn 86 (by decide) rfl) iT_25 (inb_in hc2) rfl dX0_addSheet_43 ?_
      refine J_aload_n (pc := 44) (x := 84) dX0_addSheet_44 rfl ?_
      refine J_dupR (pc := 45) dX0_addSheet_45 ?_
      refine J_get (pc := 46) (t := 0) (k := 0) (.int ((stm (stm I 85 (tn (I 84 0)) x1) 86 (tn ((stm I 85 (tn (I 84 0)) x1) 84 0)) ((stm I 85 (tn (I 84 0)) x1) 84 1)) 84 0)) (ok_c hn 84 (by decide) rfl) (by decide) rfl ingX0 (by decide) wd_192 rfl dX0_addSheet_46 ?_
      refine J_iconst (pc := 49) (v := (1 : Int32)) dX0_addSheet_49 (by decide) ?_
      refine J_iadd (pc := 50) dX0_addSheet_50 ?_
      refine J_put (pc := 51) (t := 0) (k := 0) (ok_c hn 84 (by decide) rfl) (by decide) rfl ingX0 tyX0 tyX0_ok nmX0 (by decide) wd_192 rfl pfI (Nat.le_of_ble_eq_true rfl) rfl dX0_addSheet_51 ?_
      refine J_aload_n (pc := 54) (x := 84) dX0_addSheet_54 rfl ?_
      refine J_dupR (pc := 55) dX0_addSheet_55 ?_
      refine J_get (pc := 56) (t := 0) (k := 1) (.int ((stm (stm (stm I 85 (tn (I 84 0)) x1) 86 (tn ((stm I 85 (tn (I 84 0)) x1) 84 0)) ((stm I 85 (tn (I 84 0)) x1) 84 1)) 84 0 (((stm (stm I 85 (tn (I 84 0)) x1) 86 (tn ((stm I 85 (tn (I 84 0)) x1) 84 0)) ((stm I 85 (tn (I 84 0)) x1) 84 1)) 84 0) + (1 : Int32))) 84 1)) (ok_c hn 84 (by decide) rfl) (by decide) rfl ingX0 (by decide) wd_193 rfl dX0_addSheet_56 ?_
      refine J_iload_n (pc := 59) (x := x2) dX0_addSheet_59 rfl ?_
      refine J_iadd (pc := 60) dX0_addSheet_60 ?_
      refine J_put (pc := 61) (t := 0) (k := 1) (ok_c hn 84 (by decide) rfl) (by decide) rfl ingX0 tyX0 tyX0_ok nmX0 (by decide) wd_193 rfl pfI (Nat.le_of_ble_eq_true rfl) rfl dX0_addSheet_61 ?_
      exact J_vret (pc := 64) dX0_addSheet_64
abbrev mu_X0_numberOf_84_3 (G : Gt) : Mt (Int32 × Mem) := mi G cX0_numberOf 6 yX0_numberOf.cls (some .int) 1 21
def f_X0_numberOf_84_3 (x2 : Int32) (x3 : Int32) (I : Mem) : Option (Int32 × Mem) :=
  (if (I 4 2) = (1 : Int32) then ck (inb x2 100) <| ck (inb x2 100) <| bI (f_X7_pagesOf (I 85 (tn x2)) I) fun r4 I3 => (if (r4 / (2 : Int32)) < x3 then some ((((I3 84 1) - ((I 86 (tn x2)) / (2 : Int32))) - (r4 - x3)), I3) else some ((((I 86 (tn x2)) / (2 : Int32)) + x3), I3)) else ck (inb x2 100) <| some (((I 86 (tn x2)) + x3), I))
set_option maxRecDepth 100000 in
theorem c_X0_numberOf_84_3 {G : Gt} (hG : Gok G) (hn : Gn G) (x2 : Int32) (x3 : Int32) (I : Mem) : Cti G yX0_numberOf cX0_numberOf 6 (some .int) 1 21 [.ref 84, .ref 3, .int x2, .int x3] I (f_X0_numberOf_84_3 x2 x3 I) := by
  refine Cti.of (ls := [some (.ref 84), some (.ref 3), some (.int x2), some (.int x3), none, none]) 2 hG (by decide) rfl (Nat.le_of_ble_eq_true rfl) ?_
  unfold f_X0_numberOf_84_3
  refine J_aload_n (pc := 0) (x := 3) dX0_numberOf_0 rfl ?_
  refine J_get (pc := 1) (t := 7) (k := 1) (.ref 4) (ok_c hn 3 (by decide) rfl) (by decide) rfl ingX7 (by decide) wd_207 rfl dX0_numberOf_1 ?_
  refine J_iconst (pc := 4) (v := (2 : Int32)) dX0_numberOf_4 (by decide) ?_
  refine J_ild (pc := 5) (t := 11) (k := 2) (ok_c hn 4 (by decide) rfl) iT_11 (inb_in (by decide)) (by decide) dX0_numberOf_5 ?_
  refine J_iconst (pc := 6) (v := (1 : Int32)) dX0_numberOf_6 (by decide) ?_
  refine J_icmp_eq (pc := 7) (tgt := 19) dX0_numberOf_7 (by decide) ?_ ?_
  · refine J_aload_n (pc := 19) (x := 84) dX0_numberOf_19 rfl ?_
    refine J_get (pc := 20) (t := 0) (k := 3) (.ref 86) (ok_c hn 84 (by decide) rfl) (by decide) rfl ingX0 (by decide) wd_201 rfl dX0_numberOf_20 ?_
    refine J_iload_n (pc := 23) (x := x2) dX0_numberOf_23 rfl ?_
    refine J_ck (fun hc1 => ?_)
    refine J_ild (pc := 24) (t := 25) (k := (tn x2)) (ok_c hn 86 (by decide) rfl) iT_25 (inb_in hc1) rfl dX0_numberOf_24 ?_
    refine J_iconst (pc := 25) (v := (2 : Int32)) dX0_numberOf_25 (by decide) ?_
    refine J_idiv (pc := 26) dX0_numberOf_26 (by decide) ?_
    refine J_istore (pc := 27) (ls' := [some (.ref 84), some (.ref 3), some (.int x2), some (.int x3), some (.int ((I 86 (tn x2)) / (2 : Int32))), none]) dX0_numberOf_27 (Nat.le_of_ble_eq_true rfl) rfl rfl ?_
    refine J_aload_n (pc := 29) (x := 3) dX0_numberOf_29 rfl ?_
    refine J_aload_n (pc := 30) (x := 84) dX0_numberOf_30 rfl ?_
    refine J_get (pc := 31) (t := 0) (k := 2) (.ref 85) (ok_c hn 84 (by decide) rfl) (by decide) rfl ingX0 (by decide) wd_200 rfl dX0_numberOf_31 ?_
    refine J_iload_n (pc := 34) (x := x2) dX0_numberOf_34 rfl ?_
    refine J_ck (fun hc2 => ?_)
    refine J_ild (pc := 35) (t := 24) (k := (tn x2)) (ok_c hn 85 (by decide) rfl) iT_24 (inb_in hc2) rfl dX0_numberOf_35 ?_
    refine J_callVi (pc := 36) (t := 7) (as := [.int (I 85 (tn x2))]) (st := []) (c_X7_pagesOf hG hn (I 85 (tn x2)) I) (ok_c hn 3 (by decide) rfl) (by decide) rfl (cw_RX0_41 rfl) wd_197 wd_196 rfl ⟨Nat.le_of_ble_eq_true rfl, Nat.le_of_ble_eq_true rfl, Nat.le_of_ble_eq_true rfl, Nat.le_of_ble_eq_true rfl⟩ (Nat.le_of_ble_eq_true rfl) rfl dX0_numberOf_36 (fun r4 I3 => ?_)
    refine J_istore (pc := 39) (ls' := [some (.ref 84), some (.ref 3), some (.int x2), some (.int x3), some (.int ((I 86 (tn x2)) / (2 : Int32))), some (.int r4)]) dX0_numberOf_39 (Nat.le_of_ble_eq_true rfl) rfl rfl ?_
    refine J_iload_n (pc := 41) (x := x3) dX0_numberOf_41 rfl ?_
    refine J_iload (pc := 42) (x := r4) dX0_numberOf_42 rfl ?_
    refine J_iconst (pc := 44) (v := (2 : Int32)) dX0_numberOf_44 (by decide) ?_
    refine J_idiv (pc := 45) dX0_numberOf_45 (by decide) ?_
    refine J_icmp_gt (pc := 46) (tgt := 54) dX0_numberOf_46 (by decide) ?_ ?_
    · refine J_aload_n (pc := 54) (x := 84) dX0_numberOf_54 rfl ?_
      refine J_get (pc := 55) (t := 0) (k := 1) (.int (I3 84 1)) (ok_c hn 84 (by decide) rfl) (by decide) rfl ingX0 (by decide) wd_193 rfl dX0_numberOf_55 ?_
      refine J_iload (pc := 58) (x := ((I 86 (tn x2)) / (2 : Int32))) dX0_numberOf_58 rfl ?_
      refine J_isub (pc := 60) dX0_numberOf_60 ?_
      refine J_iload (pc := 61) (x := r4) dX0_numberOf_61 rfl ?_
      refine J_iload_n (pc := 63) (x := x3) dX0_numberOf_63 rfl ?_
      refine J_isub (pc := 64) dX0_numberOf_64 ?_
      refine J_isub (pc := 65) dX0_numberOf_65 ?_
      exact J_iret (pc := 66) dX0_numberOf_66
    · refine J_iload (pc := 49) (x := ((I 86 (tn x2)) / (2 : Int32))) dX0_numberOf_49 rfl ?_
      refine J_iload_n (pc := 51) (x := x3) dX0_numberOf_51 rfl ?_
      refine J_iadd (pc := 52) dX0_numberOf_52 ?_
      exact J_iret (pc := 53) dX0_numberOf_53
  · refine J_aload_n (pc := 10) (x := 84) dX0_numberOf_10 rfl ?_
    refine J_get (pc := 11) (t := 0) (k := 3) (.ref 86) (ok_c hn 84 (by decide) rfl) (by decide) rfl ingX0 (by decide) wd_201 rfl dX0_numberOf_11 ?_
    refine J_iload_n (pc := 14) (x := x2) dX0_numberOf_14 rfl ?_
    refine J_ck (fun hc5 => ?_)
    refine J_ild (pc := 15) (t := 25) (k := (tn x2)) (ok_c hn 86 (by decide) rfl) iT_25 (inb_in hc5) rfl dX0_numberOf_15 ?_
    refine J_iload_n (pc := 16) (x := x3) dX0_numberOf_16 rfl ?_
    refine J_iadd (pc := 17) dX0_numberOf_17 ?_
    exact J_iret (pc := 18) dX0_numberOf_18
abbrev mu_X0_placePages_84_3 (G : Gt) : Mt Mem := mv G cX0_placePages 5 yX0_placePages.cls 2 46
def b_X0_placePages_84_3_2 (K61 : Mem → Option Mem) (R : Int32 → Int32 → Mem → Option Mem) (x2 : Int32) (x3 : Int32) (I : Mem) : Option Mem :=
  ck (inb x2 100) <| bI (f_X7_pagesOf (I 85 (tn x2)) I) fun r3 I2 => (if r3 < x3 then K61 I2 else bI (f_X0_numberOf_84_3 x2 x3 I2) fun r5 I4 => (if r5 < (1 : Int32) then R x2 (x3 + (1 : Int32)) I4 else (if (432 : Int32) < r5 then R x2 (x3 + (1 : Int32)) I4 else ck (inb r5 433) <| ck (inb r5 433) <| R x2 (x3 + (1 : Int32)) (stm (stm I4 87 (tn r5) x2) 88 (tn r5) x3))))
def l_X0_placePages_84_3_2 (K61 : Mem → Option Mem) : Nat → Int32 → Int32 → Mem → Option Mem := fx (b_X0_placePages_84_3_2 K61) (fun _ _ _ => none)
def f_X0_placePages_84_3 (x2 : Int32) (I : Mem) : Option Mem :=
  l_X0_placePages_84_3_2 (fun I8 => some I8) fuel x2 (1 : Int32) I
set_option maxRecDepth 100000 in
theorem tb_X0_placePages_84_3_2 {G : Gt} (hG : Gok G) (hn : Gn G) {K61 : Mem → Option Mem} (hK61 : ∀ (I : Mem), J G (mu_X0_placePages_84_3 G) 61 [none, none, none, none, none] [] I (K61 I)) {R : Int32 → Int32 → Mem → Option Mem} (hR : ∀ (x2 : Int32) (x3 : Int32) (I : Mem), J G (mu_X0_placePages_84_3 G) 2 [some (.ref 84), some (.ref 3), some (.int x2), some (.int x3), none] [] I (R x2 x3 I)) (x2 : Int32) (x3 : Int32) (I : Mem) : J G (mu_X0_placePages_84_3 G) 2 [some (.ref 84), some (.ref 3), some (.int x2), some (.int x3), none] [] I (b_X0_placePages_84_3_2 K61 R x2 x3 I) := by
  unfold b_X0_placePages_84_3_2
  refine J_iload_n (pc := 2) (x := x3) dX0_placePages_2 rfl ?_
  refine J_aload_n (pc := 3) (x := 3) dX0_placePages_3 rfl ?_
  refine J_aload_n (pc := 4) (x := 84) dX0_placePages_4 rfl ?_
  refine J_get (pc := 5) (t := 0) (k := 2) (.ref 85) (ok_c hn 84 (by decide) rfl) (by decide) rfl ingX0 (by decide) wd_200 rfl dX0_placePages_5 ?_
  refine J_iload_n (pc := 8) (x := x2) dX0_placePages_8 rfl ?_
  refine J_ck (fun hc1 => ?_)
  refine J_ild (pc := 9) (t := 24) (k := (tn x2)) (ok_c hn 85 (by decide) rfl) iT_24 (inb_in hc1) rfl dX0_placePages_9 ?_
  refine J_callVi (pc := 10) (t := 7) (as := [.int (I 85 (tn x2))]) (st := [.int x3]) (c_X7_pagesOf hG hn (I 85 (tn x2)) I) (ok_c hn 3 (by decide) rfl) (by decide) rfl (cw_RX0_41 rfl) wd_197 wd_196 rfl ⟨Nat.le_of_ble_eq_true rfl, Nat.le_of_ble_eq_true rfl, Nat.le_of_ble_eq_true rfl, Nat.le_of_ble_eq_true rfl⟩ (Nat.le_of_ble_eq_true rfl) rfl dX0_placePages_10 (fun r3 I2 => ?_)
  refine J_icmp_gt (pc := 13) (tgt := 61) dX0_placePages_13 (by decide) ?_ ?_
  · refine J_weak (ls' := [none, none, none, none, none]) trivial ?_
    exact hK61 I2
  · refine J_aload_n (pc := 16) (x := 84) dX0_placePages_16 rfl ?_
    refine J_aload_n (pc := 17) (x := 3) dX0_placePages_17 rfl ?_
    refine J_iload_n (pc := 18) (x := x2) dX0_placePages_18 rfl ?_
    refine J_iload_n (pc := 19) (x := x3) dX0_placePages_19 rfl ?_
    refine J_callVi (pc := 20) (t := 0) (as := [.ref 3, .int x2, .int x3]) (st := []) (c_X0_numberOf_84_3 hG hn x2 x3 I2) (ok_c hn 84 (by decide) rfl) (by decide) rfl (cw_RX0_53 rfl) wd_209 wd_208 rfl ⟨Nat.le_of_ble_eq_true rfl, Nat.le_of_ble_eq_true rfl, Nat.le_of_ble_eq_true rfl, Nat.le_of_ble_eq_true rfl⟩ (Nat.le_of_ble_eq_true rfl) rfl dX0_placePages_20 (fun r5 I4 => ?_)
    refine J_istore (pc := 23) (ls' := [some (.ref 84), some (.ref 3), some (.int x2), some (.int x3), some (.int r5)]) dX0_placePages_23 (Nat.le_of_ble_eq_true rfl) rfl rfl ?_
    refine J_iload (pc := 25) (x := r5) dX0_placePages_25 rfl ?_
    refine J_iconst (pc := 27) (v := (1 : Int32)) dX0_placePages_27 (by decide) ?_
    refine J_icmp_lt (pc := 28) (tgt := 55) dX0_placePages_28 (by decide) ?_ ?_
    · refine J_iinc (pc := 55) (d := (1 : Int32)) (ls' := [some (.ref 84), some (.ref 3), some (.int x2), some (.int (x3 + (1 : Int32))), some (.int r5)]) dX0_placePages_55 (by decide) rfl (Nat.le_of_ble_eq_true rfl) rfl rfl ?_
      refine J_goto (pc := 58) (tgt := 2) dX0_placePages_58 (by decide) ?_
      refine J_weak (ls' := [some (.ref 84), some (.ref 3), some (.int x2), some (.int (x3 + (1 : Int32))), none]) ⟨rfl, rfl, rfl, rfl, trivial⟩ ?_
      exact hR x2 (x3 + (1 : Int32)) I4
    · refine J_iload (pc := 31) (x := r5) dX0_placePages_31 rfl ?_
      refine J_sipush (pc := 33) (v := (432 : Int32)) dX0_placePages_33 (by decide) ?_
      refine J_icmp_gt (pc := 36) (tgt := 55) dX0_placePages_36 (by decide) ?_ ?_
      · refine J_iinc (pc := 55) (d := (1 : Int32)) (ls' := [some (.ref 84), some (.ref 3), some (.int x2), some (.int (x3 + (1 : Int32))), some (.int r5)]) dX0_placePages_55 (by decide) rfl (Nat.le_of_ble_eq_true rfl) rfl rfl ?_
        refine J_goto (pc := 58) (tgt := 2) dX0_placePages_58 (by decide) ?_
        refine J_weak (ls' := [some (.ref 84), some (.ref 3), some (.int x2), some (.int (x3 + (1 : Int32))), none]) ⟨rfl, rfl, rfl, rfl, trivial⟩ ?_
        exact hR x2 (x3 + (1 : Int32)) I4
      · refine J_aload_n (pc := 39) (x := 84) dX0_placePages_39 rfl ?_
        refine J_get (pc := 40) (t := 0) (k := 4) (.ref 87) (ok_c hn 84 (by decide) rfl) (by decide) rfl ingX0 (by decide) wd_212 rfl dX0_placePages_40 ?_
        refine J_iload (pc := 43) (x := r5) dX0_placePages_43 rfl ?_
        refine J_iload_n (pc := 45) (x := x2) dX0_placePages_45 rfl ?_
        refine J_ck (fun hc6 => ?_)
        refine J_ist (pc := 46) (t := 26) (k := (tn r5)) (ok_c hn 87 (by decide) rfl) iT_26 (inb_in hc6) rfl dX0_placePages_46 ?_
        refine J_aload_n (pc := 47) (x := 84) dX0_placePages_47 rfl ?_
        refine J_get (pc := 48) (t := 0) (k := 5) (.ref 88) (ok_c hn 84 (by decide) rfl) (by decide) rfl ingX0 (by decide) wd_213 rfl dX0_placePages_48 ?_
        refine J_iload (pc := 51) (x := r5) dX0_placePages_51 rfl ?_
        refine J_iload_n (pc := 53) (x := x3) dX0_placePages_53 rfl ?_
        refine J_ck (fun hc7 => ?_)
        refine J_ist (pc := 54) (t := 27) (k := (tn r5)) (ok_c hn 88 (by decide) rfl) iT_27 (inb_in hc7) rfl dX0_placePages_54 ?_
        refine J_iinc (pc := 55) (d := (1 : Int32)) (ls' := [some (.ref 84), some (.ref 3), some (.int x2), some (.int (x3 + (1 : Int32))), some (.int r5)]) dX0_placePages_55 (by decide) rfl (Nat.le_of_ble_eq_true rfl) rfl rfl ?_
        refine J_goto (pc := 58) (tgt := 2) dX0_placePages_58 (by decide) ?_
        refine J_weak (ls' := [some (.ref 84), some (.ref 3), some (.int x2), some (.int (x3 + (1 : Int32))), none]) ⟨rfl, rfl, rfl, rfl, trivial⟩ ?_
        exact hR x2 (x3 + (1 : Int32)) (stm (stm I4 87 (tn r5) x2) 88 (tn r5) x3)
theorem tl_X0_placePages_84_3_2 {G : Gt} (hG : Gok G) (hn : Gn G) {K61 : Mem → Option Mem} (hK61 : ∀ (I : Mem), J G (mu_X0_placePages_84_3 G) 61 [none, none, none, none, none] [] I (K61 I)) (n : Nat) : ∀ (x2 : Int32) (x3 : Int32) (I : Mem), J G (mu_X0_placePages_84_3 G) 2 [some (.ref 84), some (.ref 3), some (.int x2), some (.int x3), none] [] I (l_X0_placePages_84_3_2 K61 n x2 x3 I) := by
  induction n with
  | zero => intro x2 x3 I; exact J_none
  | succ n ih => intro x2 x3 I; exact tb_X0_placePages_84_3_2 hG hn hK61 ih x2 x3 I
set_option maxRecDepth 100000 in
theorem c_X0_placePages_84_3 {G : Gt} (hG : Gok G) (hn : Gn G) (x2 : Int32) (I : Mem) : Ctv G yX0_placePages cX0_placePages 5 2 46 [.ref 84, .ref 3, .int x2] I (f_X0_placePages_84_3 x2 I) := by
  refine Ctv.of (ls := [some (.ref 84), some (.ref 3), some (.int x2), none, none]) 2 hG (by decide) rfl (Nat.le_of_ble_eq_true rfl) ?_
  unfold f_X0_placePages_84_3
  refine J_iconst (pc := 0) (v := (1 : Int32)) dX0_placePages_0 (by decide) ?_
  refine J_istore_n (pc := 1) (ls' := [some (.ref 84), some (.ref 3), some (.int x2), some (.int (1 : Int32)), none]) dX0_placePages_1 (Nat.le_of_ble_eq_true rfl) rfl rfl ?_
  refine tl_X0_placePages_84_3_2 hG hn (fun I8 => ?_) fuel x2 (1 : Int32) I
  · exact J_vret (pc := 61) dX0_placePages_61
abbrev mu_X0_arrange_84_3_76 (G : Gt) : Mt Mem := mv G cX0_arrange 5 yX0_arrange.cls 3 70
def b_X0_arrange_84_3_76_23 (K50 : Int32 → Mem → Option Mem) (R : Int32 → Int32 → Mem → Option Mem) (x3 : Int32) (x4 : Int32) (I : Mem) : Option Mem :=
  ck (inb x3 4) <| (if (I 83 (tn x3)) ≤ x4 then K50 x3 I else bI (f_X7_pagesOf x3 I) fun r3 I2 => bV (f_X0_addSheet x3 r3 I2) fun I4 => R x3 (x4 + (1 : Int32)) I4)
def l_X0_arrange_84_3_76_23 (K50 : Int32 → Mem → Option Mem) : Nat → Int32 → Int32 → Mem → Option Mem := fx (b_X0_arrange_84_3_76_23 K50) (fun _ _ _ => none)
def b_X0_arrange_84_3_76_12 (K56 : Mem → Option Mem) (R : Int32 → Mem → Option Mem) (x3 : Int32) (I : Mem) : Option Mem :=
  (if (I 3 0) ≤ x3 then K56 I else l_X0_arrange_84_3_76_23 (fun (z5 : Int32) I6 => R (z5 + (1 : Int32)) I6) fuel x3 (0 : Int32) I)
def l_X0_arrange_84_3_76_12 (K56 : Mem → Option Mem) : Nat → Int32 → Mem → Option Mem := fx (b_X0_arrange_84_3_76_12 K56) (fun _ _ => none)
def b_X0_arrange_84_3_76_58 (K78 : Mem → Option Mem) (R : Int32 → Mem → Option Mem) (x3 : Int32) (I : Mem) : Option Mem :=
  (if (I 84 0) ≤ x3 then K78 I else bV (f_X0_placePages_84_3 x3 I) fun I8 => R (x3 + (1 : Int32)) I8)
def l_X0_arrange_84_3_76_58 (K78 : Mem → Option Mem) : Nat → Int32 → Mem → Option Mem := fx (b_X0_arrange_84_3_76_58 K78) (fun _ _ => none)
def f_X0_arrange_84_3_76 (I : Mem) : Option Mem :=
  l_X0_arrange_84_3_76_12 (fun I7 => l_X0_arrange_84_3_76_58 (fun I9 => some I9) fuel (0 : Int32) I7) fuel (0 : Int32) (stm (stm I 84 0 (0 : Int32)) 84 1 (0 : Int32))
set_option maxRecDepth 100000 in
theorem tb_X0_arrange_84_3_76_23 {G : Gt} (hG : Gok G) (hn : Gn G) {K50 : Int32 → Mem → Option Mem} (hK50 : ∀ (x3 : Int32) (I : Mem), J G (mu_X0_arrange_84_3_76 G) 50 [some (.ref 84), some (.ref 3), some (.ref 76), some (.int x3), none] [] I (K50 x3 I)) {R : Int32 → Int32 → Mem → Option Mem} (hR : ∀ (x3 : Int32) (x4 : Int32) (I : Mem), J G (mu_X0_arrange_84_3_76 G) 23 [some (.ref 84), some (.ref 3), some (.ref 76), some (.int x3), some (.int x4)] [] I (R x3 x4 I)) (x3 : Int32) (x4 : Int32) (I : Mem) : J G (mu_X0_arrange_84_3_76 G) 23 [some (.ref 84), some (.ref 3), some (.ref 76), some (.int x3), some (.int x4)] [] I (b_X0_arrange_84_3_76_23 K50 R x3 x4 I) := by
  unfold b_X0_arrange_84_3_76_23
  refine J_iload (pc := 23) (x := x4) dX0_arrange_23 rfl ?_
  refine J_aload_n (pc := 25) (x := 76) dX0_arrange_25 rfl ?_
  refine J_get (pc := 26) (t := 4) (k := 1) (.ref 83) (ok_c hn 76 (by decide) rfl) (by decide) rfl ingX4 (by decide) wd_195 rfl dX0_arrange_26 ?_
  refine J_iload_n (pc := 29) (x := x3) dX0_arrange_29 rfl ?_
  refine J_ck (fun hc1 => ?_)
  refine J_ild (pc := 30) (t := 23) (k := (tn x3)) (ok_c hn 83 (by decide) rfl) iT_23 (inb_in hc1) rfl dX0_arrange_30 ?_
  refine J_icmp_ge (pc := 31) (tgt := 50) dX0_arrange_31 (by decide) ?_ ?_
  · refine J_weak (ls' := [some (.ref 84), some (.ref 3), some (.ref 76), some (.int x3), none]) ⟨rfl, rfl, rfl, rfl, trivial⟩ ?_
    exact hK50 x3 I
  · refine J_aload_n (pc := 34) (x := 84) dX0_arrange_34 rfl ?_
    refine J_iload_n (pc := 35) (x := x3) dX0_arrange_35 rfl ?_
    refine J_aload_n (pc := 36) (x := 3) dX0_arrange_36 rfl ?_
    refine J_iload_n (pc := 37) (x := x3) dX0_arrange_37 rfl ?_
    refine J_callVi (pc := 38) (t := 7) (as := [.int x3]) (st := [.int x3, .ref 84]) (c_X7_pagesOf hG hn x3 I) (ok_c hn 3 (by decide) rfl) (by decide) rfl (cw_RX0_41 rfl) wd_197 wd_196 rfl ⟨Nat.le_of_ble_eq_true rfl, Nat.le_of_ble_eq_true rfl, Nat.le_of_ble_eq_true rfl, Nat.le_of_ble_eq_true rfl⟩ (Nat.le_of_ble_eq_true rfl) rfl dX0_arrange_38 (fun r3 I2 => ?_)
    refine J_callVv (pc := 41) (t := 0) (as := [.int x3, .int r3]) (st := []) (c_X0_addSheet hG hn x3 r3 I2) (ok_c hn 84 (by decide) rfl) (by decide) rfl (cw_RX0_45 rfl) wd_203 wd_202 rfl ⟨Nat.le_of_ble_eq_true rfl, Nat.le_of_ble_eq_true rfl, Nat.le_of_ble_eq_true rfl, Nat.le_of_ble_eq_true rfl⟩ (Nat.le_of_ble_eq_true rfl) rfl dX0_arrange_41 (fun I4 => ?_)
    refine J_iinc (pc := 44) (d := (1 : Int32)) (ls' := [some (.ref 84), some (.ref 3), some (.ref 76), some (.int x3), some (.int (x4 + (1 : Int32)))]) dX0_arrange_44 (by decide) rfl (Nat.le_of_ble_eq_true rfl) rfl rfl ?_
    refine J_goto (pc := 47) (tgt := 23) dX0_arrange_47 (by decide) ?_
    exact hR x3 (x4 + (1 : Int32)) I4
theorem tl_X0_arrange_84_3_76_23 {G : Gt} (hG : Gok G) (hn : Gn G) {K50 : Int32 → Mem → Option Mem} (hK50 : ∀ (x3 : Int32) (I : Mem), J G (mu_X0_arrange_84_3_76 G) 50 [some (.ref 84), some (.ref 3), some (.ref 76), some (.int x3), none] [] I (K50 x3 I)) (n : Nat) : ∀ (x3 : Int32) (x4 : Int32) (I : Mem), J G (mu_X0_arrange_84_3_76 G) 23 [some (.ref 84), some (.ref 3), some (.ref 76), some (.int x3), some (.int x4)] [] I (l_X0_arrange_84_3_76_23 K50 n x3 x4 I) := by
  induction n with
  | zero => intro x3 x4 I; exact J_none
  | succ n ih => intro x3 x4 I; exact tb_X0_arrange_84_3_76_23 hG hn hK50 ih x3 x4 I
set_option maxRecDepth 100000 in
theorem tb_X0_arrange_84_3_76_12 {G : Gt} (hG : Gok G) (hn : Gn G) {K56 : Mem → Option Mem} (hK56 : ∀ (I : Mem), J G (mu_X0_arrange_84_3_76 G) 56 [some (.ref 84), some (.ref 3), none, none, none] [] I (K56 I)) {R : Int32 → Mem → Option Mem} (hR : ∀ (x3 : Int32) (I : Mem), J G (mu_X0_arrange_84_3_76 G) 12 [some (.ref 84), some (.ref 3), some (.ref 76), some (.int x3), none] [] I (R x3 I)) (x3 : Int32) (I : Mem) : J G (mu_X0_arrange_84_3_76 G) 12 [some (.ref 84), some (.ref 3), some (.ref 76), some (.int x3), none] [] I (b_X0_arrange_84_3_76_12 K56 R x3 I) := by
  unfold b_X0_arrange_84_3_76_12
  refine J_iload_n (pc := 12) (x := x3) dX0_arrange_12 rfl ?_
  refine J_aload_n (pc := 13) (x := 3) dX0_arrange_13 rfl ?_
  refine J_get (pc := 14) (t := 7) (k := 0) (.int (I 3 0)) (ok_c hn 3 (by decide) rfl) (by decide) rfl ingX7 (by decide) wd_194 rfl dX0_arrange_14 ?_
  refine J_icmp_ge (pc := 17) (tgt := 56) dX0_arrange_17 (by decide) ?_ ?_
  · refine J_weak (ls' := [some (.ref 84), some (.ref 3), none, none, none]) ⟨rfl, rfl, trivial⟩ ?_
    exact hK56 I
  · refine J_iconst (pc := 20) (v := (0 : Int32)) dX0_arrange_20 (by decide) ?_
    refine J_istore (pc := 21) (ls' := [some (.ref 84), some (.ref 3), some (.ref 76), some (.int x3), some (.int (0 : Int32))]) dX0_arrange_21 (Nat.le_of_ble_eq_true rfl) rfl rfl ?_
    refine tl_X0_arrange_84_3_76_23 hG hn (fun z5 I6 => ?_) fuel x3 (0 : Int32) I
    · refine J_iinc (pc := 50) (d := (1 : Int32)) (ls' := [some (.ref 84), some (.ref 3), some (.ref 76), some (.int (z5 + (1 : Int32))), none]) dX0_arrange_50 (by decide) rfl (Nat.le_of_ble_eq_true rfl) rfl rfl ?_
      refine J_goto (pc := 53) (tgt := 12) dX0_arrange_53 (by decide) ?_
      exact hR (z5 + (1 : Int32)) I6
theorem tl_X0_arrange_84_3_76_12 {G : Gt} (hG : Gok G) (hn : Gn G) {K56 : Mem → Option Mem} (hK56 : ∀ (I : Mem), J G (mu_X0_arrange_84_3_76 G) 56 [some (.ref 84), some (.ref 3), none, none, none] [] I (K56 I)) (n : Nat) : ∀ (x3 : Int32) (I : Mem), J G (mu_X0_arrange_84_3_76 G) 12 [some (.ref 84), some (.ref 3), some (.ref 76), some (.int x3), none] [] I (l_X0_arrange_84_3_76_12 K56 n x3 I) := by
  induction n with
  | zero => intro x3 I; exact J_none
  | succ n ih => intro x3 I; exact tb_X0_arrange_84_3_76_12 hG hn hK56 ih x3 I
set_option maxRecDepth 100000 in
theorem tb_X0_arrange_84_3_76_58 {G : Gt} (hG : Gok G) (hn : Gn G) {K78 : Mem → Option Mem} (hK78 : ∀ (I : Mem), J G (mu_X0_arrange_84_3_76 G) 78 [none, none, none, none, none] [] I (K78 I)) {R : Int32 → Mem → Option Mem} (hR : ∀ (x3 : Int32) (I : Mem), J G (mu_X0_arrange_84_3_76 G) 58 [some (.ref 84), some (.ref 3), none, some (.int x3), none] [] I (R x3 I)) (x3 : Int32) (I : Mem) : J G (mu_X0_arrange_84_3_76 G) 58 [some (.ref 84), some (.ref 3), none, some (.int x3), none] [] I (b_X0_arrange_84_3_76_58 K78 R x3 I) := by
  unfold b_X0_arrange_84_3_76_58
  refine J_iload_n (pc := 58) (x := x3) dX0_arrange_58 rfl ?_
  refine J_aload_n (pc := 59) (x := 84) dX0_arrange_59 rfl ?_
  refine J_get (pc := 60) (t := 0) (k := 0) (.int (I 84 0)) (ok_c hn 84 (by decide) rfl) (by decide) rfl ingX0 (by decide) wd_192 rfl dX0_arrange_60 ?_
  refine J_icmp_ge (pc := 63) (tgt := 78) dX0_arrange_63 (by decide) ?_ ?_
  · refine J_weak (ls' := [none, none, none, none, none]) trivial ?_
    exact hK78 I
  · refine J_aload_n (pc := 66) (x := 84) dX0_arrange_66 rfl ?_
    refine J_aload_n (pc := 67) (x := 3) dX0_arrange_67 rfl ?_
    refine J_iload_n (pc := 68) (x := x3) dX0_arrange_68 rfl ?_
    refine J_callVv (pc := 69) (t := 0) (as := [.ref 3, .int x3]) (st := []) (c_X0_placePages_84_3 hG hn x3 I) (ok_c hn 84 (by decide) rfl) (by decide) rfl (cw_RX0_49 rfl) wd_215 wd_214 rfl ⟨Nat.le_of_ble_eq_true rfl, Nat.le_of_ble_eq_true rfl, Nat.le_of_ble_eq_true rfl, Nat.le_of_ble_eq_true rfl⟩ (Nat.le_of_ble_eq_true rfl) rfl dX0_arrange_69 (fun I8 => ?_)
    refine J_iinc (pc := 72) (d := (1 : Int32)) (ls' := [some (.ref 84), some (.ref 3), none, some (.int (x3 + (1 : Int32))), none]) dX0_arrange_72 (by decide) rfl (Nat.le_of_ble_eq_true rfl) rfl rfl ?_
    refine J_goto (pc := 75) (tgt := 58) dX0_arrange_75 (by decide) ?_
    exact hR (x3 + (1 : Int32)) I8
theorem tl_X0_arrange_84_3_76_58 {G : Gt} (hG : Gok G) (hn : Gn G) {K78 : Mem → Option Mem} (hK78 : ∀ (I : Mem), J G (mu_X0_arrange_84_3_76 G) 78 [none, none, none, none, none] [] I (K78 I)) (n : Nat) : ∀ (x3 : Int32) (I : Mem), J G (mu_X0_arrange_84_3_76 G) 58 [some (.ref 84), some (.ref 3), none, some (.int x3), none] [] I (l_X0_arrange_84_3_76_58 K78 n x3 I) := by
  induction n with
  | zero => intro x3 I; exact J_none
  | succ n ih => intro x3 I; exact tb_X0_arrange_84_3_76_58 hG hn hK78 ih x3 I
set_option maxRecDepth 100000 in
theorem c_X0_arrange_84_3_76 {G : Gt} (hG : Gok G) (hn : Gn G) (I : Mem) : Ctv G yX0_arrange cX0_arrange 5 3 70 [.ref 84, .ref 3, .ref 76] I (f_X0_arrange_84_3_76 I) := by
  refine Ctv.of (ls := [some (.ref 84), some (.ref 3), some (.ref 76), none, none]) 2 hG (by decide) rfl (Nat.le_of_ble_eq_true rfl) ?_
  unfold f_X0_arrange_84_3_76
  refine J_aload_n (pc := 0) (x := 84) dX0_arrange_0 rfl ?_
  refine J_iconst (pc := 1) (v := (0 : Int32)) dX0_arrange_1 (by decide) ?_
  refine J_put (pc := 2) (t := 0) (k := 0) (ok_c hn 84 (by decide) rfl) (by decide) rfl ingX0 tyX0 tyX0_ok nmX0 (by decide) wd_192 rfl pfI (Nat.le_of_ble_eq_true rfl) rfl dX0_arrange_2 ?_
  refine J_aload_n (pc := 5) (x := 84) dX0_arrange_5 rfl ?_
  refine J_iconst (pc := 6) (v := (0 : Int32)) dX0_arrange_6 (by decide) ?_
  refine J_put (pc := 7) (t := 0) (k := 1) (ok_c hn 84 (by decide) rfl) (by decide) rfl ingX0 tyX0 tyX0_ok nmX0 (by decide) wd_193 rfl pfI (Nat.le_of_ble_eq_true rfl) rfl dX0_arrange_7 ?_
  refine J_iconst (pc := 10) (v := (0 : Int32)) dX0_arrange_10 (by decide) ?_
  refine J_istore_n (pc := 11) (ls' := [some (.ref 84), some (.ref 3), some (.ref 76), some (.int (0 : Int32)), none]) dX0_arrange_11 (Nat.le_of_ble_eq_true rfl) rfl rfl ?_
  refine tl_X0_arrange_84_3_76_12 hG hn (fun I7 => ?_) fuel (0 : Int32) (stm (stm I 84 0 (0 : Int32)) 84 1 (0 : Int32))
  · refine J_iconst (pc := 56) (v := (0 : Int32)) dX0_arrange_56 (by decide) ?_
    refine J_istore_n (pc := 57) (ls' := [some (.ref 84), some (.ref 3), none, some (.int (0 : Int32)), none]) dX0_arrange_57 (Nat.le_of_ble_eq_true rfl) rfl rfl ?_
    refine tl_X0_arrange_84_3_76_58 hG hn (fun I9 => ?_) fuel (0 : Int32) I7
    · exact J_vret (pc := 78) dX0_arrange_78
abbrev mu_X8_settle (G : Gt) : Mt Mem := mv G cX8_settle 2 yX8_settle.cls 4 94
def b_X8_settle_2 (K46 : Mem → Option Mem) (R : Int32 → Mem → Option Mem) (x1 : Int32) (I : Mem) : Option Mem :=
  (if (I 3 0) ≤ x1 then K46 I else ck (inb x1 4) <| ck (inb x1 4) <| ck (inb x1 4) <| bV (f_X5_foldBy (54 + 4 * (tn x1)) (I 5 (tn x1)) (I 6 (tn x1)) I) fun I4 => R (x1 + (1 : Int32)) I4)
def l_X8_settle_2 (K46 : Mem → Option Mem) : Nat → Int32 → Mem → Option Mem := fx (b_X8_settle_2 K46) (fun _ _ => none)
def f_X8_settle (I : Mem) : Option Mem :=
  l_X8_settle_2 (fun I5 => bV (f_X4_make_76_3 I5) fun I6 => bV (f_X0_arrange_84_3_76 I6) fun I7 => some I7) fuel (0 : Int32) I
set_option maxRecDepth 100000 in
theorem tb_X8_settle_2 {G : Gt} (hG : Gok G) (hn : Gn G) {K46 : Mem → Option Mem} (hK46 : ∀ (I : Mem), J G (mu_X8_settle G) 46 [some (.ref 0), none] [] I (K46 I)) {R : Int32 → Mem → Option Mem} (hR : ∀ (x1 : Int32) (I : Mem), J G (mu_X8_settle G) 2 [some (.ref 0), some (.int x1)] [] I (R x1 I)) (x1 : Int32) (I : Mem) : J G (mu_X8_settle G) 2 [some (.ref 0), some (.int x1)] [] I (b_X8_settle_2 K46 R x1 I) := by
  unfold b_X8_settle_2
  refine J_iload_n (pc := 2) (x := x1) dX8_settle_2 rfl ?_
  refine J_aload_n (pc := 3) (x := 0) dX8_settle_3 rfl ?_
  refine J_get (pc := 4) (t := 8) (k := 1) (.ref 3) (ok_c hn 0 (by decide) rfl) (by decide) rfl ingX8 (by decide) wd_72 rfl dX8_settle_4 ?_
  refine J_get (pc := 7) (t := 7) (k := 0) (.int (I 3 0)) (ok_c hn 3 (by decide) rfl) (by decide) rfl ingX7 (by decide) wd_71 rfl dX8_settle_7 ?_
  refine J_icmp_ge (pc := 10) (tgt := 46) dX8_settle_10 (by decide) ?_ ?_
  · refine J_weak (ls' := [some (.ref 0), none]) ⟨rfl, trivial⟩ ?_
    exact hK46 I
  · refine J_aload_n (pc := 13) (x := 0) dX8_settle_13 rfl ?_
    refine J_get (pc := 14) (t := 8) (k := 4) (.ref 53) (ok_c hn 0 (by decide) rfl) (by decide) rfl ingX8 (by decide) wd_82 rfl dX8_settle_14 ?_
    refine J_iload_n (pc := 17) (x := x1) dX8_settle_17 rfl ?_
    refine J_ck (fun hc1 => ?_)
    refine J_sald (pc := 18) (ok_c hn 53 (by decide) rfl) (inb_in hc1) dX8_settle_18 ?_
    refine J_aload_n (pc := 19) (x := 0) dX8_settle_19 rfl ?_
    refine J_get (pc := 20) (t := 8) (k := 1) (.ref 3) (ok_c hn 0 (by decide) rfl) (by decide) rfl ingX8 (by decide) wd_72 rfl dX8_settle_20 ?_
    refine J_get (pc := 23) (t := 7) (k := 2) (.ref 5) (ok_c hn 3 (by decide) rfl) (by decide) rfl ingX7 (by decide) wd_83 rfl dX8_settle_23 ?_
    refine J_iload_n (pc := 26) (x := x1) dX8_settle_26 rfl ?_
    refine J_ck (fun hc2 => ?_)
    refine J_ild (pc := 27) (t := 12) (k := (tn x1)) (ok_c hn 5 (by decide) rfl) iT_12 (inb_in hc2) rfl dX8_settle_27 ?_
    refine J_aload_n (pc := 28) (x := 0) dX8_settle_28 rfl ?_
    refine J_get (pc := 29) (t := 8) (k := 1) (.ref 3) (ok_c hn 0 (by decide) rfl) (by decide) rfl ingX8 (by decide) wd_72 rfl dX8_settle_29 ?_
    refine J_get (pc := 32) (t := 7) (k := 3) (.ref 6) (ok_c hn 3 (by decide) rfl) (by decide) rfl ingX7 (by decide) wd_84 rfl dX8_settle_32 ?_
    refine J_iload_n (pc := 35) (x := x1) dX8_settle_35 rfl ?_
    refine J_ck (fun hc3 => ?_)
    refine J_ild (pc := 36) (t := 13) (k := (tn x1)) (ok_c hn 6 (by decide) rfl) iT_13 (inb_in hc3) rfl dX8_settle_36 ?_
    refine J_callVv (pc := 37) (t := 5) (as := [.int (I 5 (tn x1)), .int (I 6 (tn x1))]) (st := []) (c_X5_foldBy hG hn (54 + 4 * (tn x1)) (I 5 (tn x1)) (I 6 (tn x1)) (ok_sheet hn hc1) I) (ok_sheet hn hc1) (by decide) rfl (cw_RX8_254 rfl) wd_148 wd_147 rfl ⟨Nat.le_of_ble_eq_true rfl, Nat.le_of_ble_eq_true rfl, Nat.le_of_ble_eq_true rfl, Nat.le_of_ble_eq_true rfl⟩ (Nat.le_of_ble_eq_true rfl) rfl dX8_settle_37 (fun I4 => ?_)
    refine J_iinc (pc := 40) (d := (1 : Int32)) (ls' := [some (.ref 0), some (.int (x1 + (1 : Int32)))]) dX8_settle_40 (by decide) rfl (Nat.le_of_ble_eq_true rfl) rfl rfl ?_
    refine J_goto (pc := 43) (tgt := 2) dX8_settle_43 (by decide) ?_
    exact hR (x1 + (1 : Int32)) I4
theorem tl_X8_settle_2 {G : Gt} (hG : Gok G) (hn : Gn G) {K46 : Mem → Option Mem} (hK46 : ∀ (I : Mem), J G (mu_X8_settle G) 46 [some (.ref 0), none] [] I (K46 I)) (n : Nat) : ∀ (x1 : Int32) (I : Mem), J G (mu_X8_settle G) 2 [some (.ref 0), some (.int x1)] [] I (l_X8_settle_2 K46 n x1 I) := by
  induction n with
  | zero => intro x1 I; exact J_none
  | succ n ih => intro x1 I; exact tb_X8_settle_2 hG hn hK46 ih x1 I
set_option maxRecDepth 100000 in
theorem c_X8_settle {G : Gt} (hG : Gok G) (hn : Gn G) (I : Mem) : Ctv G yX8_settle cX8_settle 2 4 94 [.ref 0] I (f_X8_settle I) := by
  refine Ctv.of (ls := [some (.ref 0), none]) 1 hG (by decide) rfl (Nat.le_of_ble_eq_true rfl) ?_
  unfold f_X8_settle
  refine J_iconst (pc := 0) (v := (0 : Int32)) dX8_settle_0 (by decide) ?_
  refine J_istore_n (pc := 1) (ls' := [some (.ref 0), some (.int (0 : Int32))]) dX8_settle_1 (Nat.le_of_ble_eq_true rfl) rfl rfl ?_
  refine tl_X8_settle_2 hG hn (fun I5 => ?_) fuel (0 : Int32) I
  · refine J_aload_n (pc := 46) (x := 0) dX8_settle_46 rfl ?_
    refine J_get (pc := 47) (t := 8) (k := 6) (.ref 76) (ok_c hn 0 (by decide) rfl) (by decide) rfl ingX8 (by decide) wd_151 rfl dX8_settle_47 ?_
    refine J_aload_n (pc := 50) (x := 0) dX8_settle_50 rfl ?_
    refine J_get (pc := 51) (t := 8) (k := 1) (.ref 3) (ok_c hn 0 (by decide) rfl) (by decide) rfl ingX8 (by decide) wd_72 rfl dX8_settle_51 ?_
    refine J_callVv (pc := 54) (t := 4) (as := [.ref 3]) (st := []) (c_X4_make_76_3 hG hn I5) (ok_c hn 76 (by decide) rfl) (by decide) rfl (cw_RX8_258 rfl) wd_188 wd_187 rfl ⟨Nat.le_of_ble_eq_true rfl, Nat.le_of_ble_eq_true rfl, Nat.le_of_ble_eq_true rfl, Nat.le_of_ble_eq_true rfl⟩ (Nat.le_of_ble_eq_true rfl) rfl dX8_settle_54 (fun I6 => ?_)
    refine J_aload_n (pc := 57) (x := 0) dX8_settle_57 rfl ?_
    refine J_get (pc := 58) (t := 8) (k := 7) (.ref 84) (ok_c hn 0 (by decide) rfl) (by decide) rfl ingX8 (by decide) wd_191 rfl dX8_settle_58 ?_
    refine J_aload_n (pc := 61) (x := 0) dX8_settle_61 rfl ?_
    refine J_get (pc := 62) (t := 8) (k := 1) (.ref 3) (ok_c hn 0 (by decide) rfl) (by decide) rfl ingX8 (by decide) wd_72 rfl dX8_settle_62 ?_
    refine J_aload_n (pc := 65) (x := 0) dX8_settle_65 rfl ?_
    refine J_get (pc := 66) (t := 8) (k := 6) (.ref 76) (ok_c hn 0 (by decide) rfl) (by decide) rfl ingX8 (by decide) wd_151 rfl dX8_settle_66 ?_
    refine J_callVv (pc := 69) (t := 0) (as := [.ref 3, .ref 76]) (st := []) (c_X0_arrange_84_3_76 hG hn I6) (ok_c hn 84 (by decide) rfl) (by decide) rfl (cw_RX8_261 rfl) wd_219 wd_218 rfl ⟨Nat.le_of_ble_eq_true rfl, Nat.le_of_ble_eq_true rfl, Nat.le_of_ble_eq_true rfl, Nat.le_of_ble_eq_true rfl⟩ (Nat.le_of_ble_eq_true rfl) rfl dX8_settle_69 (fun I7 => ?_)
    exact J_vret (pc := 72) dX8_settle_72
abbrev mu_X8_layText (G : Gt) : Mt (Int32 × Mem) := mi G cX8_layText 1 yX8_layText.cls (some .int) 8 187
def f_X8_layText (I : Mem) : Option (Int32 × Mem) :=
  bI (f_X6_readInto_1_9 I) fun r2 I1 => (if r2 = (-4 : Int32) then (if (I1 9 0) = 0 then some ((-2 : Int32), I1) else bV (f_X7_copyFrom_3_9 I1) fun I3 => bV (f_X8_settle (stm I3 15 1 (0 : Int32))) fun I4 => some ((I4 3 0), I4)) else some ((-2 : Int32), I1))
set_option maxRecDepth 100000 in
theorem c_X8_layText {G : Gt} (hG : Gok G) (hn : Gn G) (I : Mem) : Cti G yX8_layText cX8_layText 1 (some .int) 8 187 [.ref 0] I (f_X8_layText I) := by
  refine Cti.of (ls := [some (.ref 0)]) 0 hG (by decide) rfl (Nat.le_of_ble_eq_true rfl) ?_
  unfold f_X8_layText
  refine J_aload_n (pc := 0) (x := 0) dX8_layText_0 rfl ?_
  refine J_get (pc := 1) (t := 8) (k := 0) (.ref 1) (ok_c hn 0 (by decide) rfl) (by decide) rfl ingX8 (by decide) wd_0 rfl dX8_layText_1 ?_
  refine J_aload_n (pc := 4) (x := 0) dX8_layText_4 rfl ?_
  refine J_get (pc := 5) (t := 8) (k := 2) (.ref 9) (ok_c hn 0 (by decide) rfl) (by decide) rfl ingX8 (by decide) wd_1 rfl dX8_layText_5 ?_
  refine J_callVi (pc := 8) (t := 6) (as := [.ref 9]) (st := []) (c_X6_readInto_1_9 hG hn I) (ok_c hn 1 (by decide) rfl) (by decide) rfl (cw_RX8_83 rfl) wd_68 wd_67 rfl ⟨Nat.le_of_ble_eq_true rfl, Nat.le_of_ble_eq_true rfl, Nat.le_of_ble_eq_true rfl, Nat.le_of_ble_eq_true rfl⟩ (Nat.le_of_ble_eq_true rfl) rfl dX8_layText_8 (fun r2 I1 => ?_)
  refine J_bipush (pc := 11) (v := (-4 : Int32)) dX8_layText_11 (by decide) ?_
  refine J_icmp_ne (pc := 13) (tgt := 26) dX8_layText_13 (by decide) ?_ ?_
  · refine J_aload_n (pc := 16) (x := 0) dX8_layText_16 rfl ?_
    refine J_get (pc := 17) (t := 8) (k := 2) (.ref 9) (ok_c hn 0 (by decide) rfl) (by decide) rfl ingX8 (by decide) wd_1 rfl dX8_layText_17 ?_
    refine J_get (pc := 20) (t := 7) (k := 0) (.int (I1 9 0)) (ok_c hn 9 (by decide) rfl) (by decide) rfl ingX7 (by decide) wd_71 rfl dX8_layText_20 ?_
    refine J_if_ne (pc := 23) (tgt := 29) dX8_layText_23 (by decide) ?_ ?_
    · refine J_bipush (pc := 26) (v := (-2 : Int32)) dX8_layText_26 (by decide) ?_
      exact J_iret (pc := 28) dX8_layText_28
    · refine J_aload_n (pc := 29) (x := 0) dX8_layText_29 rfl ?_
      refine J_get (pc := 30) (t := 8) (k := 1) (.ref 3) (ok_c hn 0 (by decide) rfl) (by decide) rfl ingX8 (by decide) wd_72 rfl dX8_layText_30 ?_
      refine J_aload_n (pc := 33) (x := 0) dX8_layText_33 rfl ?_
      refine J_get (pc := 34) (t := 8) (k := 2) (.ref 9) (ok_c hn 0 (by decide) rfl) (by decide) rfl ingX8 (by decide) wd_1 rfl dX8_layText_34 ?_
      refine J_callVv (pc := 37) (t := 7) (as := [.ref 9]) (st := []) (c_X7_copyFrom_3_9 hG hn I1) (ok_c hn 3 (by decide) rfl) (by decide) rfl (cw_RX8_248 rfl) wd_77 wd_76 rfl ⟨Nat.le_of_ble_eq_true rfl, Nat.le_of_ble_eq_true rfl, Nat.le_of_ble_eq_true rfl, Nat.le_of_ble_eq_true rfl⟩ (Nat.le_of_ble_eq_true rfl) rfl dX8_layText_37 (fun I3 => ?_)
      refine J_aload_n (pc := 40) (x := 0) dX8_layText_40 rfl ?_
      refine J_get (pc := 41) (t := 8) (k := 3) (.ref 15) (ok_c hn 0 (by decide) rfl) (by decide) rfl ingX8 (by decide) wd_80 rfl dX8_layText_41 ?_
      refine J_iconst (pc := 44) (v := (0 : Int32)) dX8_layText_44 (by decide) ?_
      refine J_put (pc := 45) (t := 1) (k := 1) (ok_c hn 15 (by decide) rfl) (by decide) rfl ingX1 tyX1 tyX1_ok nmX1 (by decide) wd_81 rfl pfI (Nat.le_of_ble_eq_true rfl) rfl dX8_layText_45 ?_
      refine J_aload_n (pc := 48) (x := 0) dX8_layText_48 rfl ?_
      refine J_callVv (pc := 49) (t := 8) (as := []) (st := []) (c_X8_settle hG hn (stm I3 15 1 (0 : Int32))) (ok_c hn 0 (by decide) rfl) (by decide) rfl (cw_RX8_136 rfl) wd_223 wd_222 rfl ⟨Nat.le_of_ble_eq_true rfl, Nat.le_of_ble_eq_true rfl, Nat.le_of_ble_eq_true rfl, Nat.le_of_ble_eq_true rfl⟩ (Nat.le_of_ble_eq_true rfl) rfl dX8_layText_49 (fun I4 => ?_)
      refine J_aload_n (pc := 52) (x := 0) dX8_layText_52 rfl ?_
      refine J_get (pc := 53) (t := 8) (k := 1) (.ref 3) (ok_c hn 0 (by decide) rfl) (by decide) rfl ingX8 (by decide) wd_72 rfl dX8_layText_53 ?_
      refine J_get (pc := 56) (t := 7) (k := 0) (.int (I4 3 0)) (ok_c hn 3 (by decide) rfl) (by decide) rfl ingX7 (by decide) wd_71 rfl dX8_layText_56 ?_
      exact J_iret (pc := 59) dX8_layText_59
  · refine J_bipush (pc := 26) (v := (-2 : Int32)) dX8_layText_26 (by decide) ?_
    exact J_iret (pc := 28) dX8_layText_28
abbrev mu_X6_append (G : Gt) : Mt Mem := mv G cX6_append 2 yX6_append.cls 0 0
def f_X6_append (x1 : Int32) (I : Mem) : Option Mem :=
  (if (200 : Int32) ≤ (I 1 1) then some I else ck (inb (I 1 1) 200) <| some (stm (stm I 2 (tn (I 1 1)) (vp_nar .char x1)) 1 1 (((stm I 2 (tn (I 1 1)) (vp_nar .char x1)) 1 1) + (1 : Int32))))
set_option maxRecDepth 100000 in
theorem c_X6_append {G : Gt} (hG : Gok G) (hn : Gn G) (x1 : Int32) (I : Mem) : Ctv G yX6_append cX6_append 2 0 0 [.ref 1, .int x1] I (f_X6_append x1 I) := by
  refine Ctv.of (ls := [some (.ref 1), some (.int x1)]) 0 hG (by decide) rfl (Nat.le_of_ble_eq_true rfl) ?_
  unfold f_X6_append
  refine J_aload_n (pc := 0) (x := 1) dX6_append_0 rfl ?_
  refine J_get (pc := 1) (t := 6) (k := 1) (.int (I 1 1)) (ok_c hn 1 (by decide) rfl) (by decide) rfl ingX6 (by decide) wd_14 rfl dX6_append_1 ?_
  refine J_sipush (pc := 4) (v := (200 : Int32)) dX6_append_4 (by decide) ?_
  refine J_icmp_ge (pc := 7) (tgt := 30) dX6_append_7 (by decide) ?_ ?_
  · exact J_vret (pc := 30) dX6_append_30
  · refine J_aload_n (pc := 10) (x := 1) dX6_append_10 rfl ?_
    refine J_get (pc := 11) (t := 6) (k := 0) (.ref 2) (ok_c hn 1 (by decide) rfl) (by decide) rfl ingX6 (by decide) wd_15 rfl dX6_append_11 ?_
    refine J_aload_n (pc := 14) (x := 1) dX6_append_14 rfl ?_
    refine J_get (pc := 15) (t := 6) (k := 1) (.int (I 1 1)) (ok_c hn 1 (by decide) rfl) (by decide) rfl ingX6 (by decide) wd_14 rfl dX6_append_15 ?_
    refine J_iload_n (pc := 18) (x := x1) dX6_append_18 rfl ?_
    refine J_ck (fun hc1 => ?_)
    refine J_cst (pc := 19) (k := (tn (I 1 1))) (ok_c hn 2 (by decide) rfl) (inb_in hc1) rfl dX6_append_19 ?_
    refine J_aload_n (pc := 20) (x := 1) dX6_append_20 rfl ?_
    refine J_dupR (pc := 21) dX6_append_21 ?_
    refine J_get (pc := 22) (t := 6) (k := 1) (.int ((stm I 2 (tn (I 1 1)) (vp_nar .char x1)) 1 1)) (ok_c hn 1 (by decide) rfl) (by decide) rfl ingX6 (by decide) wd_14 rfl dX6_append_22 ?_
    refine J_iconst (pc := 25) (v := (1 : Int32)) dX6_append_25 (by decide) ?_
    refine J_iadd (pc := 26) dX6_append_26 ?_
    refine J_put (pc := 27) (t := 6) (k := 1) (ok_c hn 1 (by decide) rfl) (by decide) rfl ingX6 tyX6 tyX6_ok nmX6 (by decide) wd_14 rfl pfI (Nat.le_of_ble_eq_true rfl) rfl dX6_append_27 ?_
    exact J_vret (pc := 30) dX6_append_30
abbrev mu_X8_write (G : Gt) : Mt (Int32 × Mem) := mi G cX8_write 2 yX8_write.cls (some .int) 1 21
def f_X8_write (x1 : Int32) (I : Mem) : Option (Int32 × Mem) :=
  (if x1 < (32 : Int32) then some ((-1 : Int32), I) else (if x1 ≤ (126 : Int32) then (if (I 1 1) < (200 : Int32) then bV (f_X6_append (((x1).toUInt32 % 65536).toInt32) I) fun I1 => some ((I1 1 1), I1) else some ((-3 : Int32), I)) else some ((-1 : Int32), I)))
set_option maxRecDepth 100000 in
theorem c_X8_write {G : Gt} (hG : Gok G) (hn : Gn G) (x1 : Int32) (I : Mem) : Cti G yX8_write cX8_write 2 (some .int) 1 21 [.ref 0, .int x1] I (f_X8_write x1 I) := by
  refine Cti.of (ls := [some (.ref 0), some (.int x1)]) 0 hG (by decide) rfl (Nat.le_of_ble_eq_true rfl) ?_
  unfold f_X8_write
  refine J_iload_n (pc := 0) (x := x1) dX8_write_0 rfl ?_
  refine J_bipush (pc := 1) (v := (32 : Int32)) dX8_write_1 (by decide) ?_
  refine J_icmp_lt (pc := 3) (tgt := 12) dX8_write_3 (by decide) ?_ ?_
  · refine J_iconst (pc := 12) (v := (-1 : Int32)) dX8_write_12 (by decide) ?_
    exact J_iret (pc := 13) dX8_write_13
  · refine J_iload_n (pc := 6) (x := x1) dX8_write_6 rfl ?_
    refine J_bipush (pc := 7) (v := (126 : Int32)) dX8_write_7 (by decide) ?_
    refine J_icmp_le (pc := 9) (tgt := 14) dX8_write_9 (by decide) ?_ ?_
    · refine J_aload_n (pc := 14) (x := 0) dX8_write_14 rfl ?_
      refine J_get (pc := 15) (t := 8) (k := 0) (.ref 1) (ok_c hn 0 (by decide) rfl) (by decide) rfl ingX8 (by decide) wd_0 rfl dX8_write_15 ?_
      refine J_get (pc := 18) (t := 6) (k := 1) (.int (I 1 1)) (ok_c hn 1 (by decide) rfl) (by decide) rfl ingX6 (by decide) wd_227 rfl dX8_write_18 ?_
      refine J_sipush (pc := 21) (v := (200 : Int32)) dX8_write_21 (by decide) ?_
      refine J_icmp_lt (pc := 24) (tgt := 30) dX8_write_24 (by decide) ?_ ?_
      · refine J_aload_n (pc := 30) (x := 0) dX8_write_30 rfl ?_
        refine J_get (pc := 31) (t := 8) (k := 0) (.ref 1) (ok_c hn 0 (by decide) rfl) (by decide) rfl ingX8 (by decide) wd_0 rfl dX8_write_31 ?_
        refine J_iload_n (pc := 34) (x := x1) dX8_write_34 rfl ?_
        refine J_i2c (pc := 35) dX8_write_35 ?_
        refine J_callVv (pc := 36) (t := 6) (as := [.int (((x1).toUInt32 % 65536).toInt32)]) (st := []) (c_X6_append hG hn (((x1).toUInt32 % 65536).toInt32) I) (ok_c hn 1 (by decide) rfl) (by decide) rfl (cw_RX8_73 rfl) wd_229 wd_228 rfl ⟨Nat.le_of_ble_eq_true rfl, Nat.le_of_ble_eq_true rfl, Nat.le_of_ble_eq_true rfl, Nat.le_of_ble_eq_true rfl⟩ (Nat.le_of_ble_eq_true rfl) rfl dX8_write_36 (fun I1 => ?_)
        refine J_aload_n (pc := 39) (x := 0) dX8_write_39 rfl ?_
        refine J_get (pc := 40) (t := 8) (k := 0) (.ref 1) (ok_c hn 0 (by decide) rfl) (by decide) rfl ingX8 (by decide) wd_0 rfl dX8_write_40 ?_
        refine J_get (pc := 43) (t := 6) (k := 1) (.int (I1 1 1)) (ok_c hn 1 (by decide) rfl) (by decide) rfl ingX6 (by decide) wd_227 rfl dX8_write_43 ?_
        exact J_iret (pc := 46) dX8_write_46
      · refine J_bipush (pc := 27) (v := (-3 : Int32)) dX8_write_27 (by decide) ?_
        exact J_iret (pc := 29) dX8_write_29
    · refine J_iconst (pc := 12) (v := (-1 : Int32)) dX8_write_12 (by decide) ?_
      exact J_iret (pc := 13) dX8_write_13
abbrev mu_X8_wipe (G : Gt) : Mt (Int32 × Mem) := mi G cX8_wipe 2 yX8_wipe.cls (some .int) 0 0
def f_X8_wipe (I : Mem) : Option (Int32 × Mem) :=
  some ((I 1 1), (stm I 1 1 (0 : Int32)))
set_option maxRecDepth 100000 in
theorem c_X8_wipe {G : Gt} (hG : Gok G) (hn : Gn G) (I : Mem) : Cti G yX8_wipe cX8_wipe 2 (some .int) 0 0 [.ref 0] I (f_X8_wipe I) := by
  refine Cti.of (ls := [some (.ref 0), none]) 1 hG (by decide) rfl (Nat.le_of_ble_eq_true rfl) ?_
  unfold f_X8_wipe
  refine J_aload_n (pc := 0) (x := 0) dX8_wipe_0 rfl ?_
  refine J_get (pc := 1) (t := 8) (k := 0) (.ref 1) (ok_c hn 0 (by decide) rfl) (by decide) rfl ingX8 (by decide) wd_0 rfl dX8_wipe_1 ?_
  refine J_get (pc := 4) (t := 6) (k := 1) (.int (I 1 1)) (ok_c hn 1 (by decide) rfl) (by decide) rfl ingX6 (by decide) wd_227 rfl dX8_wipe_4 ?_
  refine J_istore_n (pc := 7) (ls' := [some (.ref 0), some (.int (I 1 1))]) dX8_wipe_7 (Nat.le_of_ble_eq_true rfl) rfl rfl ?_
  refine J_aload_n (pc := 8) (x := 0) dX8_wipe_8 rfl ?_
  refine J_get (pc := 9) (t := 8) (k := 0) (.ref 1) (ok_c hn 0 (by decide) rfl) (by decide) rfl ingX8 (by decide) wd_0 rfl dX8_wipe_9 ?_
  refine J_iconst (pc := 12) (v := (0 : Int32)) dX8_wipe_12 (by decide) ?_
  refine J_put (pc := 13) (t := 6) (k := 1) (ok_c hn 1 (by decide) rfl) (by decide) rfl ingX6 tyX6 tyX6_ok nmX6 (by decide) wd_227 rfl pfI (Nat.le_of_ble_eq_true rfl) rfl dX8_wipe_13 ?_
  refine J_iload_n (pc := 16) (x := (I 1 1)) dX8_wipe_16 rfl ?_
  exact J_iret (pc := 17) dX8_wipe_17
abbrev mu_X8_fault (G : Gt) : Mt (Int32 × Mem) := mi G cX8_fault 1 yX8_fault.cls (some .int) 8 187
def f_X8_fault (I : Mem) : Option (Int32 × Mem) :=
  bI (f_X6_readInto_1_9 I) fun r2 I1 => some (r2, I1)
set_option maxRecDepth 100000 in
theorem c_X8_fault {G : Gt} (hG : Gok G) (hn : Gn G) (I : Mem) : Cti G yX8_fault cX8_fault 1 (some .int) 8 187 [.ref 0] I (f_X8_fault I) := by
  refine Cti.of (ls := [some (.ref 0)]) 0 hG (by decide) rfl (Nat.le_of_ble_eq_true rfl) ?_
  unfold f_X8_fault
  refine J_aload_n (pc := 0) (x := 0) dX8_fault_0 rfl ?_
  refine J_get (pc := 1) (t := 8) (k := 0) (.ref 1) (ok_c hn 0 (by decide) rfl) (by decide) rfl ingX8 (by decide) wd_0 rfl dX8_fault_1 ?_
  refine J_aload_n (pc := 4) (x := 0) dX8_fault_4 rfl ?_
  refine J_get (pc := 5) (t := 8) (k := 2) (.ref 9) (ok_c hn 0 (by decide) rfl) (by decide) rfl ingX8 (by decide) wd_1 rfl dX8_fault_5 ?_
  refine J_callVi (pc := 8) (t := 6) (as := [.ref 9]) (st := []) (c_X6_readInto_1_9 hG hn I) (ok_c hn 1 (by decide) rfl) (by decide) rfl (cw_RX8_83 rfl) wd_68 wd_67 rfl ⟨Nat.le_of_ble_eq_true rfl, Nat.le_of_ble_eq_true rfl, Nat.le_of_ble_eq_true rfl, Nat.le_of_ble_eq_true rfl⟩ (Nat.le_of_ble_eq_true rfl) rfl dX8_fault_8 (fun r2 I1 => ?_)
  exact J_iret (pc := 11) dX8_fault_11
abbrev mu_X8_lay (G : Gt) : Mt (Int32 × Mem) := mi G cX8_lay 1 yX8_lay.cls (some .int) 9 207
def f_X8_lay (I : Mem) : Option (Int32 × Mem) :=
  bI (f_X8_layText I) fun r2 I1 => some (r2, I1)
set_option maxRecDepth 100000 in
theorem c_X8_lay {G : Gt} (hG : Gok G) (hn : Gn G) (I : Mem) : Cti G yX8_lay cX8_lay 1 (some .int) 9 207 [.ref 0] I (f_X8_lay I) := by
  refine Cti.of (ls := [some (.ref 0)]) 0 hG (by decide) rfl (Nat.le_of_ble_eq_true rfl) ?_
  unfold f_X8_lay
  refine J_aload_n (pc := 0) (x := 0) dX8_lay_0 rfl ?_
  refine J_callVi (pc := 1) (t := 8) (as := []) (st := []) (c_X8_layText hG hn I) (ok_c hn 0 (by decide) rfl) (by decide) rfl (cw_RX8_77 rfl) wd_233 wd_232 rfl ⟨Nat.le_of_ble_eq_true rfl, Nat.le_of_ble_eq_true rfl, Nat.le_of_ble_eq_true rfl, Nat.le_of_ble_eq_true rfl⟩ (Nat.le_of_ble_eq_true rfl) rfl dX8_lay_1 (fun r2 I1 => ?_)
  exact J_iret (pc := 4) dX8_lay_4
abbrev mu_X7_copyRow_4_v11 (G : Gt) : Mt Mem := mv G cX7_copyRow 3 yX7_copyRow.cls 0 0
def b_X7_copyRow_4_v11_2 (K26 : Mem → Option Mem) (R : Nat → Int32 → Mem → Option Mem) (a1 : Nat) (x2 : Int32) (I : Mem) : Option Mem :=
  (if (3 : Int32) ≤ x2 then K26 I else (if (3 : Int32) ≤ x2 then K26 I else ck (inb x2 3) <| ck (inb x2 3) <| R a1 (x2 + (1 : Int32)) (stm I a1 (tn x2) (I 4 (tn x2)))))
def l_X7_copyRow_4_v11_2 (K26 : Mem → Option Mem) : Nat → Nat → Int32 → Mem → Option Mem := fx (b_X7_copyRow_4_v11_2 K26) (fun _ _ _ => none)
def f_X7_copyRow_4_v11 (a1 : Nat) (I : Mem) : Option Mem :=
  l_X7_copyRow_4_v11_2 (fun I3 => some I3) fuel a1 (0 : Int32) I
set_option maxRecDepth 100000 in
theorem tb_X7_copyRow_4_v11_2 {G : Gt} (hG : Gok G) (hn : Gn G) {K26 : Mem → Option Mem} (hK26 : ∀ (I : Mem), J G (mu_X7_copyRow_4_v11 G) 26 [none, none, none] [] I (K26 I)) {R : Nat → Int32 → Mem → Option Mem} (hR : ∀ (a1 : Nat) (x2 : Int32) (o1 : ok G a1 11) (I : Mem), J G (mu_X7_copyRow_4_v11 G) 2 [some (.ref 4), some (.ref a1), some (.int x2)] [] I (R a1 x2 I)) (a1 : Nat) (x2 : Int32) (o1 : ok G a1 11) (I : Mem) : J G (mu_X7_copyRow_4_v11 G) 2 [some (.ref 4), some (.ref a1), some (.int x2)] [] I (b_X7_copyRow_4_v11_2 K26 R a1 x2 I) := by
  unfold b_X7_copyRow_4_v11_2
  refine J_iload_n (pc := 2) (x := x2) dX7_copyRow_2 rfl ?_
  refine J_aload_n (pc := 3) (x := 4) dX7_copyRow_3 rfl ?_
  refine J_aln (pc := 4) (t := 11) (v := (3 : Int32)) (ok_c hn 4 (by decide) rfl) iT_11 (by decide) dX7_copyRow_4 ?_
  refine J_icmp_ge (pc := 5) (tgt := 26) dX7_copyRow_5 (by decide) ?_ ?_
  · refine J_weak (ls' := [none, none, none]) trivial ?_
    exact hK26 I
  · refine J_iload_n (pc := 8) (x := x2) dX7_copyRow_8 rfl ?_
    refine J_aload_n (pc := 9) (x := a1) dX7_copyRow_9 rfl ?_
    refine J_aln (pc := 10) (t := 11) (v := (3 : Int32)) o1 iT_11 (by decide) dX7_copyRow_10 ?_
    refine J_icmp_ge (pc := 11) (tgt := 26) dX7_copyRow_11 (by decide) ?_ ?_
    · refine J_weak (ls' := [none, none, none]) trivial ?_
      exact hK26 I
    · refine J_aload_n (pc := 14) (x := a1) dX7_copyRow_14 rfl ?_
      refine J_iload_n (pc := 15) (x := x2) dX7_copyRow_15 rfl ?_
      refine J_aload_n (pc := 16) (x := 4) dX7_copyRow_16 rfl ?_
      refine J_iload_n (pc := 17) (x := x2) dX7_copyRow_17 rfl ?_
      refine J_ck (fun hc1 => ?_)
      refine J_ild (pc := 18) (t := 11) (k := (tn x2)) (ok_c hn 4 (by decide) rfl) iT_11 (inb_in hc1) rfl dX7_copyRow_18 ?_
      refine J_ck (fun hc2 => ?_)
      refine J_ist (pc := 19) (t := 11) (k := (tn x2)) o1 iT_11 (inb_in hc2) rfl dX7_copyRow_19 ?_
      refine J_iinc (pc := 20) (d := (1 : Int32)) (ls' := [some (.ref 4), some (.ref a1), some (.int (x2 + (1 : Int32)))]) dX7_copyRow_20 (by decide) rfl (Nat.le_of_ble_eq_true rfl) rfl rfl ?_
      refine J_goto (pc := 23) (tgt := 2) dX7_copyRow_23 (by decide) ?_
      exact hR a1 (x2 + (1 : Int32)) o1 (stm I a1 (tn x2) (I 4 (tn x2)))
theorem tl_X7_copyRow_4_v11_2 {G : Gt} (hG : Gok G) (hn : Gn G) {K26 : Mem → Option Mem} (hK26 : ∀ (I : Mem), J G (mu_X7_copyRow_4_v11 G) 26 [none, none, none] [] I (K26 I)) (n : Nat) : ∀ (a1 : Nat) (x2 : Int32) (o1 : ok G a1 11) (I : Mem), J G (mu_X7_copyRow_4_v11 G) 2 [some (.ref 4), some (.ref a1), some (.int x2)] [] I (l_X7_copyRow_4_v11_2 K26 n a1 x2 I) := by
  induction n with
  | zero => intro a1 x2 o1 I; exact J_none
  | succ n ih => intro a1 x2 o1 I; exact tb_X7_copyRow_4_v11_2 hG hn hK26 ih a1 x2 o1 I
set_option maxRecDepth 100000 in
theorem c_X7_copyRow_4_v11 {G : Gt} (hG : Gok G) (hn : Gn G) (a1 : Nat) (o1 : ok G a1 11) (I : Mem) : Ctv G yX7_copyRow cX7_copyRow 3 0 0 [.ref 4, .ref a1] I (f_X7_copyRow_4_v11 a1 I) := by
  refine Ctv.of (ls := [some (.ref 4), some (.ref a1), none]) 1 hG (by decide) rfl (Nat.le_of_ble_eq_true rfl) ?_
  unfold f_X7_copyRow_4_v11
  refine J_iconst (pc := 0) (v := (0 : Int32)) dX7_copyRow_0 (by decide) ?_
  refine J_istore_n (pc := 1) (ls' := [some (.ref 4), some (.ref a1), some (.int (0 : Int32))]) dX7_copyRow_1 (Nat.le_of_ble_eq_true rfl) rfl rfl ?_
  refine tl_X7_copyRow_4_v11_2 hG hn (fun I3 => ?_) fuel a1 (0 : Int32) o1 I
  · exact J_vret (pc := 26) dX7_copyRow_26
abbrev mu_X7_copyRow_5_v12 (G : Gt) : Mt Mem := mv G cX7_copyRow 3 yX7_copyRow.cls 0 0
def b_X7_copyRow_5_v12_2 (K26 : Mem → Option Mem) (R : Nat → Int32 → Mem → Option Mem) (a1 : Nat) (x2 : Int32) (I : Mem) : Option Mem :=
  (if (4 : Int32) ≤ x2 then K26 I else (if (4 : Int32) ≤ x2 then K26 I else ck (inb x2 4) <| ck (inb x2 4) <| R a1 (x2 + (1 : Int32)) (stm I a1 (tn x2) (I 5 (tn x2)))))
def l_X7_copyRow_5_v12_2 (K26 : Mem → Option Mem) : Nat → Nat → Int32 → Mem → Option Mem := fx (b_X7_copyRow_5_v12_2 K26) (fun _ _ _ => none)
def f_X7_copyRow_5_v12 (a1 : Nat) (I : Mem) : Option Mem :=
  l_X7_copyRow_5_v12_2 (fun I3 => some I3) fuel a1 (0 : Int32) I
set_option maxRecDepth 100000 in
theorem tb_X7_copyRow_5_v12_2 {G : Gt} (hG : Gok G) (hn : Gn G) {K26 : Mem → Option Mem} (hK26 : ∀ (I : Mem), J G (mu_X7_copyRow_5_v12 G) 26 [none, none, none] [] I (K26 I)) {R : Nat → Int32 → Mem → Option Mem} (hR : ∀ (a1 : Nat) (x2 : Int32) (o1 : ok G a1 12) (I : Mem), J G (mu_X7_copyRow_5_v12 G) 2 [some (.ref 5), some (.ref a1), some (.int x2)] [] I (R a1 x2 I)) (a1 : Nat) (x2 : Int32) (o1 : ok G a1 12) (I : Mem) : J G (mu_X7_copyRow_5_v12 G) 2 [some (.ref 5), some (.ref a1), some (.int x2)] [] I (b_X7_copyRow_5_v12_2 K26 R a1 x2 I) := by
  unfold b_X7_copyRow_5_v12_2
  refine J_iload_n (pc := 2) (x := x2) dX7_copyRow_2 rfl ?_
  refine J_aload_n (pc := 3) (x := 5) dX7_copyRow_3 rfl ?_
  refine J_aln (pc := 4) (t := 12) (v := (4 : Int32)) (ok_c hn 5 (by decide) rfl) iT_12 (by decide) dX7_copyRow_4 ?_
  refine J_icmp_ge (pc := 5) (tgt := 26) dX7_copyRow_5 (by decide) ?_ ?_
  · refine J_weak (ls' := [none, none, none]) trivial ?_
    exact hK26 I
  · refine J_iload_n (pc := 8) (x := x2) dX7_copyRow_8 rfl ?_
    refine J_aload_n (pc := 9) (x := a1) dX7_copyRow_9 rfl ?_
    refine J_aln (pc := 10) (t := 12) (v := (4 : Int32)) o1 iT_12 (by decide) dX7_copyRow_10 ?_
    refine J_icmp_ge (pc := 11) (tgt := 26) dX7_copyRow_11 (by decide) ?_ ?_
    · refine J_weak (ls' := [none, none, none]) trivial ?_
      exact hK26 I
    · refine J_aload_n (pc := 14) (x := a1) dX7_copyRow_14 rfl ?_
      refine J_iload_n (pc := 15) (x := x2) dX7_copyRow_15 rfl ?_
      refine J_aload_n (pc := 16) (x := 5) dX7_copyRow_16 rfl ?_
      refine J_iload_n (pc := 17) (x := x2) dX7_copyRow_17 rfl ?_
      refine J_ck (fun hc1 => ?_)
      refine J_ild (pc := 18) (t := 12) (k := (tn x2)) (ok_c hn 5 (by decide) rfl) iT_12 (inb_in hc1) rfl dX7_copyRow_18 ?_
      refine J_ck (fun hc2 => ?_)
      refine J_ist (pc := 19) (t := 12) (k := (tn x2)) o1 iT_12 (inb_in hc2) rfl dX7_copyRow_19 ?_
      refine J_iinc (pc := 20) (d := (1 : Int32)) (ls' := [some (.ref 5), some (.ref a1), some (.int (x2 + (1 : Int32)))]) dX7_copyRow_20 (by decide) rfl (Nat.le_of_ble_eq_true rfl) rfl rfl ?_
      refine J_goto (pc := 23) (tgt := 2) dX7_copyRow_23 (by decide) ?_
      exact hR a1 (x2 + (1 : Int32)) o1 (stm I a1 (tn x2) (I 5 (tn x2)))
theorem tl_X7_copyRow_5_v12_2 {G : Gt} (hG : Gok G) (hn : Gn G) {K26 : Mem → Option Mem} (hK26 : ∀ (I : Mem), J G (mu_X7_copyRow_5_v12 G) 26 [none, none, none] [] I (K26 I)) (n : Nat) : ∀ (a1 : Nat) (x2 : Int32) (o1 : ok G a1 12) (I : Mem), J G (mu_X7_copyRow_5_v12 G) 2 [some (.ref 5), some (.ref a1), some (.int x2)] [] I (l_X7_copyRow_5_v12_2 K26 n a1 x2 I) := by
  induction n with
  | zero => intro a1 x2 o1 I; exact J_none
  | succ n ih => intro a1 x2 o1 I; exact tb_X7_copyRow_5_v12_2 hG hn hK26 ih a1 x2 o1 I
set_option maxRecDepth 100000 in
theorem c_X7_copyRow_5_v12 {G : Gt} (hG : Gok G) (hn : Gn G) (a1 : Nat) (o1 : ok G a1 12) (I : Mem) : Ctv G yX7_copyRow cX7_copyRow 3 0 0 [.ref 5, .ref a1] I (f_X7_copyRow_5_v12 a1 I) := by
  refine Ctv.of (ls := [some (.ref 5), some (.ref a1), none]) 1 hG (by decide) rfl (Nat.le_of_ble_eq_true rfl) ?_
  unfold f_X7_copyRow_5_v12
  refine J_iconst (pc := 0) (v := (0 : Int32)) dX7_copyRow_0 (by decide) ?_
  refine J_istore_n (pc := 1) (ls' := [some (.ref 5), some (.ref a1), some (.int (0 : Int32))]) dX7_copyRow_1 (Nat.le_of_ble_eq_true rfl) rfl rfl ?_
  refine tl_X7_copyRow_5_v12_2 hG hn (fun I3 => ?_) fuel a1 (0 : Int32) o1 I
  · exact J_vret (pc := 26) dX7_copyRow_26
abbrev mu_X7_copyRow_6_v13 (G : Gt) : Mt Mem := mv G cX7_copyRow 3 yX7_copyRow.cls 0 0
def b_X7_copyRow_6_v13_2 (K26 : Mem → Option Mem) (R : Nat → Int32 → Mem → Option Mem) (a1 : Nat) (x2 : Int32) (I : Mem) : Option Mem :=
  (if (4 : Int32) ≤ x2 then K26 I else (if (4 : Int32) ≤ x2 then K26 I else ck (inb x2 4) <| ck (inb x2 4) <| R a1 (x2 + (1 : Int32)) (stm I a1 (tn x2) (I 6 (tn x2)))))
def l_X7_copyRow_6_v13_2 (K26 : Mem → Option Mem) : Nat → Nat → Int32 → Mem → Option Mem := fx (b_X7_copyRow_6_v13_2 K26) (fun _ _ _ => none)
def f_X7_copyRow_6_v13 (a1 : Nat) (I : Mem) : Option Mem :=
  l_X7_copyRow_6_v13_2 (fun I3 => some I3) fuel a1 (0 : Int32) I
set_option maxRecDepth 100000 in
theorem tb_X7_copyRow_6_v13_2 {G : Gt} (hG : Gok G) (hn : Gn G) {K26 : Mem → Option Mem} (hK26 : ∀ (I : Mem), J G (mu_X7_copyRow_6_v13 G) 26 [none, none, none] [] I (K26 I)) {R : Nat → Int32 → Mem → Option Mem} (hR : ∀ (a1 : Nat) (x2 : Int32) (o1 : ok G a1 13) (I : Mem), J G (mu_X7_copyRow_6_v13 G) 2 [some (.ref 6), some (.ref a1), some (.int x2)] [] I (R a1 x2 I)) (a1 : Nat) (x2 : Int32) (o1 : ok G a1 13) (I : Mem) : J G (mu_X7_copyRow_6_v13 G) 2 [some (.ref 6), some (.ref a1), some (.int x2)] [] I (b_X7_copyRow_6_v13_2 K26 R a1 x2 I) := by
  unfold b_X7_copyRow_6_v13_2
  refine J_iload_n (pc := 2) (x := x2) dX7_copyRow_2 rfl ?_
  refine J_aload_n (pc := 3) (x := 6) dX7_copyRow_3 rfl ?_
  refine J_aln (pc := 4) (t := 13) (v := (4 : Int32)) (ok_c hn 6 (by decide) rfl) iT_13 (by decide) dX7_copyRow_4 ?_
  refine J_icmp_ge (pc := 5) (tgt := 26) dX7_copyRow_5 (by decide) ?_ ?_
  · refine J_weak (ls' := [none, none, none]) trivial ?_
    exact hK26 I
  · refine J_iload_n (pc := 8) (x := x2) dX7_copyRow_8 rfl ?_
    refine J_aload_n (pc := 9) (x := a1) dX7_copyRow_9 rfl ?_
    refine J_aln (pc := 10) (t := 13) (v := (4 : Int32)) o1 iT_13 (by decide) dX7_copyRow_10 ?_
    refine J_icmp_ge (pc := 11) (tgt := 26) dX7_copyRow_11 (by decide) ?_ ?_
    · refine J_weak (ls' := [none, none, none]) trivial ?_
      exact hK26 I
    · refine J_aload_n (pc := 14) (x := a1) dX7_copyRow_14 rfl ?_
      refine J_iload_n (pc := 15) (x := x2) dX7_copyRow_15 rfl ?_
      refine J_aload_n (pc := 16) (x := 6) dX7_copyRow_16 rfl ?_
      refine J_iload_n (pc := 17) (x := x2) dX7_copyRow_17 rfl ?_
      refine J_ck (fun hc1 => ?_)
      refine J_ild (pc := 18) (t := 13) (k := (tn x2)) (ok_c hn 6 (by decide) rfl) iT_13 (inb_in hc1) rfl dX7_copyRow_18 ?_
      refine J_ck (fun hc2 => ?_)
      refine J_ist (pc := 19) (t := 13) (k := (tn x2)) o1 iT_13 (inb_in hc2) rfl dX7_copyRow_19 ?_
      refine J_iinc (pc := 20) (d := (1 : Int32)) (ls' := [some (.ref 6), some (.ref a1), some (.int (x2 + (1 : Int32)))]) dX7_copyRow_20 (by decide) rfl (Nat.le_of_ble_eq_true rfl) rfl rfl ?_
      refine J_goto (pc := 23) (tgt := 2) dX7_copyRow_23 (by decide) ?_
      exact hR a1 (x2 + (1 : Int32)) o1 (stm I a1 (tn x2) (I 6 (tn x2)))
theorem tl_X7_copyRow_6_v13_2 {G : Gt} (hG : Gok G) (hn : Gn G) {K26 : Mem → Option Mem} (hK26 : ∀ (I : Mem), J G (mu_X7_copyRow_6_v13 G) 26 [none, none, none] [] I (K26 I)) (n : Nat) : ∀ (a1 : Nat) (x2 : Int32) (o1 : ok G a1 13) (I : Mem), J G (mu_X7_copyRow_6_v13 G) 2 [some (.ref 6), some (.ref a1), some (.int x2)] [] I (l_X7_copyRow_6_v13_2 K26 n a1 x2 I) := by
  induction n with
  | zero => intro a1 x2 o1 I; exact J_none
  | succ n ih => intro a1 x2 o1 I; exact tb_X7_copyRow_6_v13_2 hG hn hK26 ih a1 x2 o1 I
set_option maxRecDepth 100000 in
theorem c_X7_copyRow_6_v13 {G : Gt} (hG : Gok G) (hn : Gn G) (a1 : Nat) (o1 : ok G a1 13) (I : Mem) : Ctv G yX7_copyRow cX7_copyRow 3 0 0 [.ref 6, .ref a1] I (f_X7_copyRow_6_v13 a1 I) := by
  refine Ctv.of (ls := [some (.ref 6), some (.ref a1), none]) 1 hG (by decide) rfl (Nat.le_of_ble_eq_true rfl) ?_
  unfold f_X7_copyRow_6_v13
  refine J_iconst (pc := 0) (v := (0 : Int32)) dX7_copyRow_0 (by decide) ?_
  refine J_istore_n (pc := 1) (ls' := [some (.ref 6), some (.ref a1), some (.int (0 : Int32))]) dX7_copyRow_1 (Nat.le_of_ble_eq_true rfl) rfl rfl ?_
  refine tl_X7_copyRow_6_v13_2 hG hn (fun I3 => ?_) fuel a1 (0 : Int32) o1 I
  · exact J_vret (pc := 26) dX7_copyRow_26
abbrev mu_X7_copyRow_7_v14 (G : Gt) : Mt Mem := mv G cX7_copyRow 3 yX7_copyRow.cls 0 0
def b_X7_copyRow_7_v14_2 (K26 : Mem → Option Mem) (R : Nat → Int32 → Mem → Option Mem) (a1 : Nat) (x2 : Int32) (I : Mem) : Option Mem :=
  (if (4 : Int32) ≤ x2 then K26 I else (if (4 : Int32) ≤ x2 then K26 I else ck (inb x2 4) <| ck (inb x2 4) <| R a1 (x2 + (1 : Int32)) (stm I a1 (tn x2) (I 7 (tn x2)))))
def l_X7_copyRow_7_v14_2 (K26 : Mem → Option Mem) : Nat → Nat → Int32 → Mem → Option Mem := fx (b_X7_copyRow_7_v14_2 K26) (fun _ _ _ => none)
def f_X7_copyRow_7_v14 (a1 : Nat) (I : Mem) : Option Mem :=
  l_X7_copyRow_7_v14_2 (fun I3 => some I3) fuel a1 (0 : Int32) I
set_option maxRecDepth 100000 in
theorem tb_X7_copyRow_7_v14_2 {G : Gt} (hG : Gok G) (hn : Gn G) {K26 : Mem → Option Mem} (hK26 : ∀ (I : Mem), J G (mu_X7_copyRow_7_v14 G) 26 [none, none, none] [] I (K26 I)) {R : Nat → Int32 → Mem → Option Mem} (hR : ∀ (a1 : Nat) (x2 : Int32) (o1 : ok G a1 14) (I : Mem), J G (mu_X7_copyRow_7_v14 G) 2 [some (.ref 7), some (.ref a1), some (.int x2)] [] I (R a1 x2 I)) (a1 : Nat) (x2 : Int32) (o1 : ok G a1 14) (I : Mem) : J G (mu_X7_copyRow_7_v14 G) 2 [some (.ref 7), some (.ref a1), some (.int x2)] [] I (b_X7_copyRow_7_v14_2 K26 R a1 x2 I) := by
  unfold b_X7_copyRow_7_v14_2
  refine J_iload_n (pc := 2) (x := x2) dX7_copyRow_2 rfl ?_
  refine J_aload_n (pc := 3) (x := 7) dX7_copyRow_3 rfl ?_
  refine J_aln (pc := 4) (t := 14) (v := (4 : Int32)) (ok_c hn 7 (by decide) rfl) iT_14 (by decide) dX7_copyRow_4 ?_
  refine J_icmp_ge (pc := 5) (tgt := 26) dX7_copyRow_5 (by decide) ?_ ?_
  · refine J_weak (ls' := [none, none, none]) trivial ?_
    exact hK26 I
  · refine J_iload_n (pc := 8) (x := x2) dX7_copyRow_8 rfl ?_
    refine J_aload_n (pc := 9) (x := a1) dX7_copyRow_9 rfl ?_
    refine J_aln (pc := 10) (t := 14) (v := (4 : Int32)) o1 iT_14 (by decide) dX7_copyRow_10 ?_
    refine J_icmp_ge (pc := 11) (tgt := 26) dX7_copyRow_11 (by decide) ?_ ?_
    · refine J_weak (ls' := [none, none, none]) trivial ?_
      exact hK26 I
    · refine J_aload_n (pc := 14) (x := a1) dX7_copyRow_14 rfl ?_
      refine J_iload_n (pc := 15) (x := x2) dX7_copyRow_15 rfl ?_
      refine J_aload_n (pc := 16) (x := 7) dX7_copyRow_16 rfl ?_
      refine J_iload_n (pc := 17) (x := x2) dX7_copyRow_17 rfl ?_
      refine J_ck (fun hc1 => ?_)
      refine J_ild (pc := 18) (t := 14) (k := (tn x2)) (ok_c hn 7 (by decide) rfl) iT_14 (inb_in hc1) rfl dX7_copyRow_18 ?_
      refine J_ck (fun hc2 => ?_)
      refine J_ist (pc := 19) (t := 14) (k := (tn x2)) o1 iT_14 (inb_in hc2) rfl dX7_copyRow_19 ?_
      refine J_iinc (pc := 20) (d := (1 : Int32)) (ls' := [some (.ref 7), some (.ref a1), some (.int (x2 + (1 : Int32)))]) dX7_copyRow_20 (by decide) rfl (Nat.le_of_ble_eq_true rfl) rfl rfl ?_
      refine J_goto (pc := 23) (tgt := 2) dX7_copyRow_23 (by decide) ?_
      exact hR a1 (x2 + (1 : Int32)) o1 (stm I a1 (tn x2) (I 7 (tn x2)))
theorem tl_X7_copyRow_7_v14_2 {G : Gt} (hG : Gok G) (hn : Gn G) {K26 : Mem → Option Mem} (hK26 : ∀ (I : Mem), J G (mu_X7_copyRow_7_v14 G) 26 [none, none, none] [] I (K26 I)) (n : Nat) : ∀ (a1 : Nat) (x2 : Int32) (o1 : ok G a1 14) (I : Mem), J G (mu_X7_copyRow_7_v14 G) 2 [some (.ref 7), some (.ref a1), some (.int x2)] [] I (l_X7_copyRow_7_v14_2 K26 n a1 x2 I) := by
  induction n with
  | zero => intro a1 x2 o1 I; exact J_none
  | succ n ih => intro a1 x2 o1 I; exact tb_X7_copyRow_7_v14_2 hG hn hK26 ih a1 x2 o1 I
set_option maxRecDepth 100000 in
theorem c_X7_copyRow_7_v14 {G : Gt} (hG : Gok G) (hn : Gn G) (a1 : Nat) (o1 : ok G a1 14) (I : Mem) : Ctv G yX7_copyRow cX7_copyRow 3 0 0 [.ref 7, .ref a1] I (f_X7_copyRow_7_v14 a1 I) := by
  refine Ctv.of (ls := [some (.ref 7), some (.ref a1), none]) 1 hG (by decide) rfl (Nat.le_of_ble_eq_true rfl) ?_
  unfold f_X7_copyRow_7_v14
  refine J_iconst (pc := 0) (v := (0 : Int32)) dX7_copyRow_0 (by decide) ?_
  refine J_istore_n (pc := 1) (ls' := [some (.ref 7), some (.ref a1), some (.int (0 : Int32))]) dX7_copyRow_1 (Nat.le_of_ble_eq_true rfl) rfl rfl ?_
  refine tl_X7_copyRow_7_v14_2 hG hn (fun I3 => ?_) fuel a1 (0 : Int32) o1 I
  · exact J_vret (pc := 26) dX7_copyRow_26
abbrev mu_X7_copyRow_8_v15 (G : Gt) : Mt Mem := mv G cX7_copyRow 3 yX7_copyRow.cls 0 0
def b_X7_copyRow_8_v15_2 (K26 : Mem → Option Mem) (R : Nat → Int32 → Mem → Option Mem) (a1 : Nat) (x2 : Int32) (I : Mem) : Option Mem :=
  (if (100 : Int32) ≤ x2 then K26 I else (if (100 : Int32) ≤ x2 then K26 I else ck (inb x2 100) <| ck (inb x2 100) <| R a1 (x2 + (1 : Int32)) (stm I a1 (tn x2) (I 8 (tn x2)))))
def l_X7_copyRow_8_v15_2 (K26 : Mem → Option Mem) : Nat → Nat → Int32 → Mem → Option Mem := fx (b_X7_copyRow_8_v15_2 K26) (fun _ _ _ => none)
def f_X7_copyRow_8_v15 (a1 : Nat) (I : Mem) : Option Mem :=
  l_X7_copyRow_8_v15_2 (fun I3 => some I3) fuel a1 (0 : Int32) I
set_option maxRecDepth 100000 in
theorem tb_X7_copyRow_8_v15_2 {G : Gt} (hG : Gok G) (hn : Gn G) {K26 : Mem → Option Mem} (hK26 : ∀ (I : Mem), J G (mu_X7_copyRow_8_v15 G) 26 [none, none, none] [] I (K26 I)) {R : Nat → Int32 → Mem → Option Mem} (hR : ∀ (a1 : Nat) (x2 : Int32) (o1 : ok G a1 15) (I : Mem), J G (mu_X7_copyRow_8_v15 G) 2 [some (.ref 8), some (.ref a1), some (.int x2)] [] I (R a1 x2 I)) (a1 : Nat) (x2 : Int32) (o1 : ok G a1 15) (I : Mem) : J G (mu_X7_copyRow_8_v15 G) 2 [some (.ref 8), some (.ref a1), some (.int x2)] [] I (b_X7_copyRow_8_v15_2 K26 R a1 x2 I) := by
  unfold b_X7_copyRow_8_v15_2
  refine J_iload_n (pc := 2) (x := x2) dX7_copyRow_2 rfl ?_
  refine J_aload_n (pc := 3) (x := 8) dX7_copyRow_3 rfl ?_
  refine J_aln (pc := 4) (t := 15) (v := (100 : Int32)) (ok_c hn 8 (by decide) rfl) iT_15 (by decide) dX7_copyRow_4 ?_
  refine J_icmp_ge (pc := 5) (tgt := 26) dX7_copyRow_5 (by decide) ?_ ?_
  · refine J_weak (ls' := [none, none, none]) trivial ?_
    exact hK26 I
  · refine J_iload_n (pc := 8) (x := x2) dX7_copyRow_8 rfl ?_
    refine J_aload_n (pc := 9) (x := a1) dX7_copyRow_9 rfl ?_
    refine J_aln (pc := 10) (t := 15) (v := (100 : Int32)) o1 iT_15 (by decide) dX7_copyRow_10 ?_
    refine J_icmp_ge (pc := 11) (tgt := 26) dX7_copyRow_11 (by decide) ?_ ?_
    · refine J_weak (ls' := [none, none, none]) trivial ?_
      exact hK26 I
    · refine J_aload_n (pc := 14) (x := a1) dX7_copyRow_14 rfl ?_
      refine J_iload_n (pc := 15) (x := x2) dX7_copyRow_15 rfl ?_
      refine J_aload_n (pc := 16) (x := 8) dX7_copyRow_16 rfl ?_
      refine J_iload_n (pc := 17) (x := x2) dX7_copyRow_17 rfl ?_
      refine J_ck (fun hc1 => ?_)
      refine J_ild (pc := 18) (t := 15) (k := (tn x2)) (ok_c hn 8 (by decide) rfl) iT_15 (inb_in hc1) rfl dX7_copyRow_18 ?_
      refine J_ck (fun hc2 => ?_)
      refine J_ist (pc := 19) (t := 15) (k := (tn x2)) o1 iT_15 (inb_in hc2) rfl dX7_copyRow_19 ?_
      refine J_iinc (pc := 20) (d := (1 : Int32)) (ls' := [some (.ref 8), some (.ref a1), some (.int (x2 + (1 : Int32)))]) dX7_copyRow_20 (by decide) rfl (Nat.le_of_ble_eq_true rfl) rfl rfl ?_
      refine J_goto (pc := 23) (tgt := 2) dX7_copyRow_23 (by decide) ?_
      exact hR a1 (x2 + (1 : Int32)) o1 (stm I a1 (tn x2) (I 8 (tn x2)))
theorem tl_X7_copyRow_8_v15_2 {G : Gt} (hG : Gok G) (hn : Gn G) {K26 : Mem → Option Mem} (hK26 : ∀ (I : Mem), J G (mu_X7_copyRow_8_v15 G) 26 [none, none, none] [] I (K26 I)) (n : Nat) : ∀ (a1 : Nat) (x2 : Int32) (o1 : ok G a1 15) (I : Mem), J G (mu_X7_copyRow_8_v15 G) 2 [some (.ref 8), some (.ref a1), some (.int x2)] [] I (l_X7_copyRow_8_v15_2 K26 n a1 x2 I) := by
  induction n with
  | zero => intro a1 x2 o1 I; exact J_none
  | succ n ih => intro a1 x2 o1 I; exact tb_X7_copyRow_8_v15_2 hG hn hK26 ih a1 x2 o1 I
set_option maxRecDepth 100000 in
theorem c_X7_copyRow_8_v15 {G : Gt} (hG : Gok G) (hn : Gn G) (a1 : Nat) (o1 : ok G a1 15) (I : Mem) : Ctv G yX7_copyRow cX7_copyRow 3 0 0 [.ref 8, .ref a1] I (f_X7_copyRow_8_v15 a1 I) := by
  refine Ctv.of (ls := [some (.ref 8), some (.ref a1), none]) 1 hG (by decide) rfl (Nat.le_of_ble_eq_true rfl) ?_
  unfold f_X7_copyRow_8_v15
  refine J_iconst (pc := 0) (v := (0 : Int32)) dX7_copyRow_0 (by decide) ?_
  refine J_istore_n (pc := 1) (ls' := [some (.ref 8), some (.ref a1), some (.int (0 : Int32))]) dX7_copyRow_1 (Nat.le_of_ble_eq_true rfl) rfl rfl ?_
  refine tl_X7_copyRow_8_v15_2 hG hn (fun I3 => ?_) fuel a1 (0 : Int32) o1 I
  · exact J_vret (pc := 26) dX7_copyRow_26
abbrev mu_X7_copyFrom_v7_3 (G : Gt) : Mt Mem := mv G cX7_copyFrom 2 yX7_copyFrom.cls 1 22
def f_X7_copyFrom_v7_3 (a0 : Nat) (I : Mem) : Option Mem :=
  bV (f_X7_copyRow_4_v11 (a0 + 1) (stm I a0 0 (I 3 0))) fun I1 => bV (f_X7_copyRow_5_v12 (a0 + 2) I1) fun I2 => bV (f_X7_copyRow_6_v13 (a0 + 3) I2) fun I3 => bV (f_X7_copyRow_7_v14 (a0 + 4) I3) fun I4 => bV (f_X7_copyRow_8_v15 (a0 + 5) I4) fun I5 => some I5
set_option maxRecDepth 100000 in
theorem c_X7_copyFrom_v7_3 {G : Gt} (hG : Gok G) (hn : Gn G) (a0 : Nat) (o0 : ok G a0 7) (I : Mem) : Ctv G yX7_copyFrom cX7_copyFrom 2 1 22 [.ref a0, .ref 3] I (f_X7_copyFrom_v7_3 a0 I) := by
  refine Ctv.of (ls := [some (.ref a0), some (.ref 3)]) 0 hG (by decide) rfl (Nat.le_of_ble_eq_true rfl) ?_
  unfold f_X7_copyFrom_v7_3
  refine J_aload_n (pc := 0) (x := a0) dX7_copyFrom_0 rfl ?_
  refine J_aload_n (pc := 1) (x := 3) dX7_copyFrom_1 rfl ?_
  refine J_get (pc := 2) (t := 7) (k := 0) (.int (I 3 0)) (ok_c hn 3 (by decide) rfl) (by decide) rfl ingX7 (by decide) wd_2 rfl dX7_copyFrom_2 ?_
  refine J_put (pc := 5) (t := 7) (k := 0) o0 (by decide) rfl ingX7 tyX7 tyX7_ok nmX7 (by decide) wd_2 rfl pfI (Nat.le_of_ble_eq_true rfl) rfl dX7_copyFrom_5 ?_
  refine J_aload_n (pc := 8) (x := 3) dX7_copyFrom_8 rfl ?_
  refine J_get (pc := 9) (t := 7) (k := 1) (.ref 4) (ok_c hn 3 (by decide) rfl) (by decide) rfl ingX7 (by decide) wd_3 rfl dX7_copyFrom_9 ?_
  refine J_aload_n (pc := 12) (x := a0) dX7_copyFrom_12 rfl ?_
  refine J_get (pc := 13) (t := 7) (k := 1) (.ref (a0 + 1)) o0 (by decide) rfl ingX7 (by decide) wd_3 rfl dX7_copyFrom_13 ?_
  refine J_callSv (pc := 16) (as := [.ref 4, .ref (a0 + 1)]) (st := []) (c_X7_copyRow_4_v11 hG hn (a0 + 1) (okf_7_1 hn o0) (stm I a0 0 (I 3 0))) (cw_RX7_37 rfl) wd_73 rfl ⟨Nat.le_of_ble_eq_true rfl, Nat.le_of_ble_eq_true rfl, Nat.le_of_ble_eq_true rfl, Nat.le_of_ble_eq_true rfl⟩ (Nat.le_of_ble_eq_true rfl) rfl dX7_copyFrom_16 (fun I1 => ?_)
  refine J_aload_n (pc := 19) (x := 3) dX7_copyFrom_19 rfl ?_
  refine J_get (pc := 20) (t := 7) (k := 2) (.ref 5) (ok_c hn 3 (by decide) rfl) (by decide) rfl ingX7 (by decide) wd_34 rfl dX7_copyFrom_20 ?_
  refine J_aload_n (pc := 23) (x := a0) dX7_copyFrom_23 rfl ?_
  refine J_get (pc := 24) (t := 7) (k := 2) (.ref (a0 + 2)) o0 (by decide) rfl ingX7 (by decide) wd_34 rfl dX7_copyFrom_24 ?_
  refine J_callSv (pc := 27) (as := [.ref 5, .ref (a0 + 2)]) (st := []) (c_X7_copyRow_5_v12 hG hn (a0 + 2) (okf_7_2 hn o0) I1) (cw_RX7_37 rfl) wd_73 rfl ⟨Nat.le_of_ble_eq_true rfl, Nat.le_of_ble_eq_true rfl, Nat.le_of_ble_eq_true rfl, Nat.le_of_ble_eq_true rfl⟩ (Nat.le_of_ble_eq_true rfl) rfl dX7_copyFrom_27 (fun I2 => ?_)
  refine J_aload_n (pc := 30) (x := 3) dX7_copyFrom_30 rfl ?_
  refine J_get (pc := 31) (t := 7) (k := 3) (.ref 6) (ok_c hn 3 (by decide) rfl) (by decide) rfl ingX7 (by decide) wd_35 rfl dX7_copyFrom_31 ?_
  refine J_aload_n (pc := 34) (x := a0) dX7_copyFrom_34 rfl ?_
  refine J_get (pc := 35) (t := 7) (k := 3) (.ref (a0 + 3)) o0 (by decide) rfl ingX7 (by decide) wd_35 rfl dX7_copyFrom_35 ?_
  refine J_callSv (pc := 38) (as := [.ref 6, .ref (a0 + 3)]) (st := []) (c_X7_copyRow_6_v13 hG hn (a0 + 3) (okf_7_3 hn o0) I2) (cw_RX7_37 rfl) wd_73 rfl ⟨Nat.le_of_ble_eq_true rfl, Nat.le_of_ble_eq_true rfl, Nat.le_of_ble_eq_true rfl, Nat.le_of_ble_eq_true rfl⟩ (Nat.le_of_ble_eq_true rfl) rfl dX7_copyFrom_38 (fun I3 => ?_)
  refine J_aload_n (pc := 41) (x := 3) dX7_copyFrom_41 rfl ?_
  refine J_get (pc := 42) (t := 7) (k := 4) (.ref 7) (ok_c hn 3 (by decide) rfl) (by decide) rfl ingX7 (by decide) wd_36 rfl dX7_copyFrom_42 ?_
  refine J_aload_n (pc := 45) (x := a0) dX7_copyFrom_45 rfl ?_
  refine J_get (pc := 46) (t := 7) (k := 4) (.ref (a0 + 4)) o0 (by decide) rfl ingX7 (by decide) wd_36 rfl dX7_copyFrom_46 ?_
  refine J_callSv (pc := 49) (as := [.ref 7, .ref (a0 + 4)]) (st := []) (c_X7_copyRow_7_v14 hG hn (a0 + 4) (okf_7_4 hn o0) I3) (cw_RX7_37 rfl) wd_73 rfl ⟨Nat.le_of_ble_eq_true rfl, Nat.le_of_ble_eq_true rfl, Nat.le_of_ble_eq_true rfl, Nat.le_of_ble_eq_true rfl⟩ (Nat.le_of_ble_eq_true rfl) rfl dX7_copyFrom_49 (fun I4 => ?_)
  refine J_aload_n (pc := 52) (x := 3) dX7_copyFrom_52 rfl ?_
  refine J_get (pc := 53) (t := 7) (k := 5) (.ref 8) (ok_c hn 3 (by decide) rfl) (by decide) rfl ingX7 (by decide) wd_4 rfl dX7_copyFrom_53 ?_
  refine J_aload_n (pc := 56) (x := a0) dX7_copyFrom_56 rfl ?_
  refine J_get (pc := 57) (t := 7) (k := 5) (.ref (a0 + 5)) o0 (by decide) rfl ingX7 (by decide) wd_4 rfl dX7_copyFrom_57 ?_
  refine J_callSv (pc := 60) (as := [.ref 8, .ref (a0 + 5)]) (st := []) (c_X7_copyRow_8_v15 hG hn (a0 + 5) (okf_7_5 hn o0) I4) (cw_RX7_37 rfl) wd_73 rfl ⟨Nat.le_of_ble_eq_true rfl, Nat.le_of_ble_eq_true rfl, Nat.le_of_ble_eq_true rfl, Nat.le_of_ble_eq_true rfl⟩ (Nat.le_of_ble_eq_true rfl) rfl dX7_copyFrom_60 (fun I5 => ?_)
  exact J_vret (pc := 63) dX7_copyFrom_63
abbrev mu_X1_forgetOldest (G : Gt) : Mt Mem := mv G cX1_forgetOldest 3 yX1_forgetOldest.cls 0 0
def b_X1_forgetOldest_9 (K35 : Nat → Mem → Option Mem) (R : Nat → Int32 → Mem → Option Mem) (a1 : Nat) (x2 : Int32) (I : Mem) : Option Mem :=
  (if (6 : Int32) ≤ x2 then K35 a1 I else ck (inb x2 6) <| ck (stag (tn (I 16 (tn x2))) == 7) <| ck (inb (x2 - (1 : Int32)) 6) <| R a1 (x2 + (1 : Int32)) (stm I 16 (tn (x2 - (1 : Int32))) (nI (tn (I 16 (tn x2))))))
def l_X1_forgetOldest_9 (K35 : Nat → Mem → Option Mem) : Nat → Nat → Int32 → Mem → Option Mem := fx (b_X1_forgetOldest_9 K35) (fun _ _ _ => none)
def f_X1_forgetOldest (I : Mem) : Option Mem :=
  ck (stag (tn (I 16 0)) == 7) <| l_X1_forgetOldest_9 (fun (w5 : Nat) I6 => some (stm (stm I6 16 5 (nI w5)) 15 1 (5 : Int32))) fuel (tn (I 16 0)) (1 : Int32) I
set_option maxRecDepth 100000 in
theorem tb_X1_forgetOldest_9 {G : Gt} (hG : Gok G) (hn : Gn G) {K35 : Nat → Mem → Option Mem} (hK35 : ∀ (a1 : Nat) (o1 : ok G a1 7) (I : Mem), J G (mu_X1_forgetOldest G) 35 [some (.ref 15), some (.ref a1), none] [] I (K35 a1 I)) {R : Nat → Int32 → Mem → Option Mem} (hR : ∀ (a1 : Nat) (x2 : Int32) (o1 : ok G a1 7) (I : Mem), J G (mu_X1_forgetOldest G) 9 [some (.ref 15), some (.ref a1), some (.int x2)] [] I (R a1 x2 I)) (a1 : Nat) (x2 : Int32) (o1 : ok G a1 7) (I : Mem) : J G (mu_X1_forgetOldest G) 9 [some (.ref 15), some (.ref a1), some (.int x2)] [] I (b_X1_forgetOldest_9 K35 R a1 x2 I) := by
  unfold b_X1_forgetOldest_9
  refine J_iload_n (pc := 9) (x := x2) dX1_forgetOldest_9 rfl ?_
  refine J_bipush (pc := 10) (v := (6 : Int32)) dX1_forgetOldest_10 (by decide) ?_
  refine J_icmp_ge (pc := 12) (tgt := 35) dX1_forgetOldest_12 (by decide) ?_ ?_
  · refine J_weak (ls' := [some (.ref 15), some (.ref a1), none]) ⟨rfl, rfl, trivial⟩ ?_
    exact hK35 a1 o1 I
  · refine J_aload_n (pc := 15) (x := 15) dX1_forgetOldest_15 rfl ?_
    refine J_get (pc := 16) (t := 1) (k := 0) (.ref 16) (ok_c hn 15 (by decide) rfl) (by decide) rfl ingX1 (by decide) wd_240 rfl dX1_forgetOldest_16 ?_
    refine J_iload_n (pc := 19) (x := x2) dX1_forgetOldest_19 rfl ?_
    refine J_iconst (pc := 20) (v := (1 : Int32)) dX1_forgetOldest_20 (by decide) ?_
    refine J_isub (pc := 21) dX1_forgetOldest_21 ?_
    refine J_aload_n (pc := 22) (x := 15) dX1_forgetOldest_22 rfl ?_
    refine J_get (pc := 23) (t := 1) (k := 0) (.ref 16) (ok_c hn 15 (by decide) rfl) (by decide) rfl ingX1 (by decide) wd_240 rfl dX1_forgetOldest_23 ?_
    refine J_iload_n (pc := 26) (x := x2) dX1_forgetOldest_26 rfl ?_
    refine J_ck (fun hc2 => ?_)
    refine J_kld (pc := 27) (k := (tn x2)) (ok_c hn 16 (by decide) rfl) (inb_in hc2) rfl dX1_forgetOldest_27 ?_
    refine J_ck (fun hc3 => ?_)
    refine J_ck (fun hc4 => ?_)
    refine J_kst (pc := 28) (k := (tn (x2 - (1 : Int32)))) (ok_c hn 16 (by decide) rfl) (ok_told hn hc3) (lt31 hn (ok_told hn hc3)) (inb_in hc4) rfl dX1_forgetOldest_28 ?_
    refine J_iinc (pc := 29) (d := (1 : Int32)) (ls' := [some (.ref 15), some (.ref a1), some (.int (x2 + (1 : Int32)))]) dX1_forgetOldest_29 (by decide) rfl (Nat.le_of_ble_eq_true rfl) rfl rfl ?_
    refine J_goto (pc := 32) (tgt := 9) dX1_forgetOldest_32 (by decide) ?_
    exact hR a1 (x2 + (1 : Int32)) o1 (stm I 16 (tn (x2 - (1 : Int32))) (nI (tn (I 16 (tn x2)))))
theorem tl_X1_forgetOldest_9 {G : Gt} (hG : Gok G) (hn : Gn G) {K35 : Nat → Mem → Option Mem} (hK35 : ∀ (a1 : Nat) (o1 : ok G a1 7) (I : Mem), J G (mu_X1_forgetOldest G) 35 [some (.ref 15), some (.ref a1), none] [] I (K35 a1 I)) (n : Nat) : ∀ (a1 : Nat) (x2 : Int32) (o1 : ok G a1 7) (I : Mem), J G (mu_X1_forgetOldest G) 9 [some (.ref 15), some (.ref a1), some (.int x2)] [] I (l_X1_forgetOldest_9 K35 n a1 x2 I) := by
  induction n with
  | zero => intro a1 x2 o1 I; exact J_none
  | succ n ih => intro a1 x2 o1 I; exact tb_X1_forgetOldest_9 hG hn hK35 ih a1 x2 o1 I
set_option maxRecDepth 100000 in
theorem c_X1_forgetOldest {G : Gt} (hG : Gok G) (hn : Gn G) (I : Mem) : Ctv G yX1_forgetOldest cX1_forgetOldest 3 0 0 [.ref 15] I (f_X1_forgetOldest I) := by
  refine Ctv.of (ls := [some (.ref 15), none, none]) 2 hG (by decide) rfl (Nat.le_of_ble_eq_true rfl) ?_
  unfold f_X1_forgetOldest
  refine J_aload_n (pc := 0) (x := 15) dX1_forgetOldest_0 rfl ?_
  refine J_get (pc := 1) (t := 1) (k := 0) (.ref 16) (ok_c hn 15 (by decide) rfl) (by decide) rfl ingX1 (by decide) wd_240 rfl dX1_forgetOldest_1 ?_
  refine J_iconst (pc := 4) (v := (0 : Int32)) dX1_forgetOldest_4 (by decide) ?_
  refine J_kld (pc := 5) (k := 0) (ok_c hn 16 (by decide) rfl) (inb_in (by decide)) (by decide) dX1_forgetOldest_5 ?_
  refine J_ck (fun hc1 => ?_)
  refine J_astore_n (pc := 6) (ls' := [some (.ref 15), some (.ref (tn (I 16 0))), none]) dX1_forgetOldest_6 (Nat.le_of_ble_eq_true rfl) rfl rfl ?_
  refine J_iconst (pc := 7) (v := (1 : Int32)) dX1_forgetOldest_7 (by decide) ?_
  refine J_istore_n (pc := 8) (ls' := [some (.ref 15), some (.ref (tn (I 16 0))), some (.int (1 : Int32))]) dX1_forgetOldest_8 (Nat.le_of_ble_eq_true rfl) rfl rfl ?_
  refine tl_X1_forgetOldest_9 hG hn (fun w5 ow5 I6 => ?_) fuel (tn (I 16 0)) (1 : Int32) (ok_told hn hc1) I
  · refine J_aload_n (pc := 35) (x := 15) dX1_forgetOldest_35 rfl ?_
    refine J_get (pc := 36) (t := 1) (k := 0) (.ref 16) (ok_c hn 15 (by decide) rfl) (by decide) rfl ingX1 (by decide) wd_240 rfl dX1_forgetOldest_36 ?_
    refine J_iconst (pc := 39) (v := (5 : Int32)) dX1_forgetOldest_39 (by decide) ?_
    refine J_aload_n (pc := 40) (x := w5) dX1_forgetOldest_40 rfl ?_
    refine J_kst (pc := 41) (k := 5) (ok_c hn 16 (by decide) rfl) ow5 (lt31 hn ow5) (inb_in (by decide)) (by decide) dX1_forgetOldest_41 ?_
    refine J_aload_n (pc := 42) (x := 15) dX1_forgetOldest_42 rfl ?_
    refine J_iconst (pc := 43) (v := (5 : Int32)) dX1_forgetOldest_43 (by decide) ?_
    refine J_put (pc := 44) (t := 1) (k := 1) (ok_c hn 15 (by decide) rfl) (by decide) rfl ingX1 tyX1 tyX1_ok nmX1 (by decide) wd_239 rfl pfI (Nat.le_of_ble_eq_true rfl) rfl dX1_forgetOldest_44 ?_
    exact J_vret (pc := 47) dX1_forgetOldest_47
abbrev mu_X1_keep_15_3 (G : Gt) : Mt Mem := mv G cX1_keep 2 yX1_keep.cls 2 43
def j_X1_keep_15_3_13 (I : Mem) : Option Mem :=
  ck (inb (I 15 1) 6) <| ck (stag (tn (I 16 (tn (I 15 1)))) == 7) <| bV (f_X7_copyFrom_v7_3 (tn (I 16 (tn (I 15 1)))) I) fun I3 => some (stm I3 15 1 ((I3 15 1) + (1 : Int32)))
def f_X1_keep_15_3 (I : Mem) : Option Mem :=
  (if (I 15 1) < (6 : Int32) then j_X1_keep_15_3_13 I else bV (f_X1_forgetOldest I) fun I4 => j_X1_keep_15_3_13 I4)
set_option maxRecDepth 100000 in
theorem tj_X1_keep_15_3_13 {G : Gt} (hG : Gok G) (hn : Gn G) (I : Mem) : J G (mu_X1_keep_15_3 G) 13 [some (.ref 15), some (.ref 3)] [] I (j_X1_keep_15_3_13 I) := by
  unfold j_X1_keep_15_3_13
  refine J_aload_n (pc := 13) (x := 15) dX1_keep_13 rfl ?_
  refine J_get (pc := 14) (t := 1) (k := 0) (.ref 16) (ok_c hn 15 (by decide) rfl) (by decide) rfl ingX1 (by decide) wd_240 rfl dX1_keep_14 ?_
  refine J_aload_n (pc := 17) (x := 15) dX1_keep_17 rfl ?_
  refine J_get (pc := 18) (t := 1) (k := 1) (.int (I 15 1)) (ok_c hn 15 (by decide) rfl) (by decide) rfl ingX1 (by decide) wd_239 rfl dX1_keep_18 ?_
  refine J_ck (fun hc1 => ?_)
  refine J_kld (pc := 21) (k := (tn (I 15 1))) (ok_c hn 16 (by decide) rfl) (inb_in hc1) rfl dX1_keep_21 ?_
  refine J_ck (fun hc2 => ?_)
  refine J_aload_n (pc := 22) (x := 3) dX1_keep_22 rfl ?_
  refine J_callVv (pc := 23) (t := 7) (as := [.ref 3]) (st := []) (c_X7_copyFrom_v7_3 hG hn (tn (I 16 (tn (I 15 1)))) (ok_told hn hc2) I) (ok_told hn hc2) (by decide) rfl (cw_RX1_25 rfl) wd_77 wd_76 rfl ⟨Nat.le_of_ble_eq_true rfl, Nat.le_of_ble_eq_true rfl, Nat.le_of_ble_eq_true rfl, Nat.le_of_ble_eq_true rfl⟩ (Nat.le_of_ble_eq_true rfl) rfl dX1_keep_23 (fun I3 => ?_)
  refine J_aload_n (pc := 26) (x := 15) dX1_keep_26 rfl ?_
  refine J_dupR (pc := 27) dX1_keep_27 ?_
  refine J_get (pc := 28) (t := 1) (k := 1) (.int (I3 15 1)) (ok_c hn 15 (by decide) rfl) (by decide) rfl ingX1 (by decide) wd_239 rfl dX1_keep_28 ?_
  refine J_iconst (pc := 31) (v := (1 : Int32)) dX1_keep_31 (by decide) ?_
  refine J_iadd (pc := 32) dX1_keep_32 ?_
  refine J_put (pc := 33) (t := 1) (k := 1) (ok_c hn 15 (by decide) rfl) (by decide) rfl ingX1 tyX1 tyX1_ok nmX1 (by decide) wd_239 rfl pfI (Nat.le_of_ble_eq_true rfl) rfl dX1_keep_33 ?_
  exact J_vret (pc := 36) dX1_keep_36
set_option maxRecDepth 100000 in
theorem c_X1_keep_15_3 {G : Gt} (hG : Gok G) (hn : Gn G) (I : Mem) : Ctv G yX1_keep cX1_keep 2 2 43 [.ref 15, .ref 3] I (f_X1_keep_15_3 I) := by
  refine Ctv.of (ls := [some (.ref 15), some (.ref 3)]) 0 hG (by decide) rfl (Nat.le_of_ble_eq_true rfl) ?_
  unfold f_X1_keep_15_3
  refine J_aload_n (pc := 0) (x := 15) dX1_keep_0 rfl ?_
  refine J_get (pc := 1) (t := 1) (k := 1) (.int (I 15 1)) (ok_c hn 15 (by decide) rfl) (by decide) rfl ingX1 (by decide) wd_239 rfl dX1_keep_1 ?_
  refine J_bipush (pc := 4) (v := (6 : Int32)) dX1_keep_4 (by decide) ?_
  refine J_icmp_lt (pc := 6) (tgt := 13) dX1_keep_6 (by decide) ?_ ?_
  · exact tj_X1_keep_15_3_13 hG hn I
  · refine J_aload_n (pc := 9) (x := 15) dX1_keep_9 rfl ?_
    refine J_callVv (pc := 10) (t := 1) (as := []) (st := []) (c_X1_forgetOldest hG hn I) (ok_c hn 15 (by decide) rfl) (by decide) rfl (cw_RX1_22 rfl) wd_243 wd_242 rfl ⟨Nat.le_of_ble_eq_true rfl, Nat.le_of_ble_eq_true rfl, Nat.le_of_ble_eq_true rfl, Nat.le_of_ble_eq_true rfl⟩ (Nat.le_of_ble_eq_true rfl) rfl dX1_keep_10 (fun I4 => ?_)
    exact tj_X1_keep_15_3_13 hG hn I4
abbrev mu_X7_unspoil (G : Gt) : Mt Mem := mv G cX7_unspoil 2 yX7_unspoil.cls 0 0
def b_X7_unspoil_2 (K21 : Mem → Option Mem) (R : Int32 → Mem → Option Mem) (x1 : Int32) (I : Mem) : Option Mem :=
  (if (100 : Int32) ≤ x1 then K21 I else ck (inb x1 100) <| R (x1 + (1 : Int32)) (stm I 8 (tn x1) (0 : Int32)))
def l_X7_unspoil_2 (K21 : Mem → Option Mem) : Nat → Int32 → Mem → Option Mem := fx (b_X7_unspoil_2 K21) (fun _ _ => none)
def f_X7_unspoil (I : Mem) : Option Mem :=
  l_X7_unspoil_2 (fun I2 => some I2) fuel (0 : Int32) I
set_option maxRecDepth 100000 in
theorem tb_X7_unspoil_2 {G : Gt} (hG : Gok G) (hn : Gn G) {K21 : Mem → Option Mem} (hK21 : ∀ (I : Mem), J G (mu_X7_unspoil G) 21 [none, none] [] I (K21 I)) {R : Int32 → Mem → Option Mem} (hR : ∀ (x1 : Int32) (I : Mem), J G (mu_X7_unspoil G) 2 [some (.ref 3), some (.int x1)] [] I (R x1 I)) (x1 : Int32) (I : Mem) : J G (mu_X7_unspoil G) 2 [some (.ref 3), some (.int x1)] [] I (b_X7_unspoil_2 K21 R x1 I) := by
  unfold b_X7_unspoil_2
  refine J_iload_n (pc := 2) (x := x1) dX7_unspoil_2 rfl ?_
  refine J_bipush (pc := 3) (v := (100 : Int32)) dX7_unspoil_3 (by decide) ?_
  refine J_icmp_ge (pc := 5) (tgt := 21) dX7_unspoil_5 (by decide) ?_ ?_
  · refine J_weak (ls' := [none, none]) trivial ?_
    exact hK21 I
  · refine J_aload_n (pc := 8) (x := 3) dX7_unspoil_8 rfl ?_
    refine J_get (pc := 9) (t := 7) (k := 5) (.ref 8) (ok_c hn 3 (by decide) rfl) (by decide) rfl ingX7 (by decide) wd_4 rfl dX7_unspoil_9 ?_
    refine J_iload_n (pc := 12) (x := x1) dX7_unspoil_12 rfl ?_
    refine J_iconst (pc := 13) (v := (0 : Int32)) dX7_unspoil_13 (by decide) ?_
    refine J_ck (fun hc1 => ?_)
    refine J_ist (pc := 14) (t := 15) (k := (tn x1)) (ok_c hn 8 (by decide) rfl) iT_15 (inb_in hc1) rfl dX7_unspoil_14 ?_
    refine J_iinc (pc := 15) (d := (1 : Int32)) (ls' := [some (.ref 3), some (.int (x1 + (1 : Int32)))]) dX7_unspoil_15 (by decide) rfl (Nat.le_of_ble_eq_true rfl) rfl rfl ?_
    refine J_goto (pc := 18) (tgt := 2) dX7_unspoil_18 (by decide) ?_
    exact hR (x1 + (1 : Int32)) (stm I 8 (tn x1) (0 : Int32))
theorem tl_X7_unspoil_2 {G : Gt} (hG : Gok G) (hn : Gn G) {K21 : Mem → Option Mem} (hK21 : ∀ (I : Mem), J G (mu_X7_unspoil G) 21 [none, none] [] I (K21 I)) (n : Nat) : ∀ (x1 : Int32) (I : Mem), J G (mu_X7_unspoil G) 2 [some (.ref 3), some (.int x1)] [] I (l_X7_unspoil_2 K21 n x1 I) := by
  induction n with
  | zero => intro x1 I; exact J_none
  | succ n ih => intro x1 I; exact tb_X7_unspoil_2 hG hn hK21 ih x1 I
set_option maxRecDepth 100000 in
theorem c_X7_unspoil {G : Gt} (hG : Gok G) (hn : Gn G) (I : Mem) : Ctv G yX7_unspoil cX7_unspoil 2 0 0 [.ref 3] I (f_X7_unspoil I) := by
  refine Ctv.of (ls := [some (.ref 3), none]) 1 hG (by decide) rfl (Nat.le_of_ble_eq_true rfl) ?_
  unfold f_X7_unspoil
  refine J_iconst (pc := 0) (v := (0 : Int32)) dX7_unspoil_0 (by decide) ?_
  refine J_istore_n (pc := 1) (ls' := [some (.ref 3), some (.int (0 : Int32))]) dX7_unspoil_1 (Nat.le_of_ble_eq_true rfl) rfl rfl ?_
  refine tl_X7_unspoil_2 hG hn (fun I2 => ?_) fuel (0 : Int32) I
  · exact J_vret (pc := 21) dX7_unspoil_21
abbrev mu_X8_settleAnew (G : Gt) : Mt Mem := mv G cX8_settleAnew 1 yX8_settleAnew.cls 5 115
def f_X8_settleAnew (I : Mem) : Option Mem :=
  bV (f_X7_unspoil I) fun I1 => bV (f_X8_settle I1) fun I2 => some I2
set_option maxRecDepth 100000 in
theorem c_X8_settleAnew {G : Gt} (hG : Gok G) (hn : Gn G) (I : Mem) : Ctv G yX8_settleAnew cX8_settleAnew 1 5 115 [.ref 0] I (f_X8_settleAnew I) := by
  refine Ctv.of (ls := [some (.ref 0)]) 0 hG (by decide) rfl (Nat.le_of_ble_eq_true rfl) ?_
  unfold f_X8_settleAnew
  refine J_aload_n (pc := 0) (x := 0) dX8_settleAnew_0 rfl ?_
  refine J_get (pc := 1) (t := 8) (k := 1) (.ref 3) (ok_c hn 0 (by decide) rfl) (by decide) rfl ingX8 (by decide) wd_72 rfl dX8_settleAnew_1 ?_
  refine J_callVv (pc := 4) (t := 7) (as := []) (st := []) (c_X7_unspoil hG hn I) (ok_c hn 3 (by decide) rfl) (by decide) rfl (cw_RX8_251 rfl) wd_6 wd_5 rfl ⟨Nat.le_of_ble_eq_true rfl, Nat.le_of_ble_eq_true rfl, Nat.le_of_ble_eq_true rfl, Nat.le_of_ble_eq_true rfl⟩ (Nat.le_of_ble_eq_true rfl) rfl dX8_settleAnew_4 (fun I1 => ?_)
  refine J_aload_n (pc := 7) (x := 0) dX8_settleAnew_7 rfl ?_
  refine J_callVv (pc := 8) (t := 8) (as := []) (st := []) (c_X8_settle hG hn I1) (ok_c hn 0 (by decide) rfl) (by decide) rfl (cw_RX8_136 rfl) wd_223 wd_222 rfl ⟨Nat.le_of_ble_eq_true rfl, Nat.le_of_ble_eq_true rfl, Nat.le_of_ble_eq_true rfl, Nat.le_of_ble_eq_true rfl⟩ (Nat.le_of_ble_eq_true rfl) rfl dX8_settleAnew_8 (fun I2 => ?_)
  exact J_vret (pc := 11) dX8_settleAnew_11
abbrev mu_X8_tell (G : Gt) : Mt (Int32 × Mem) := mi G cX8_tell 4 yX8_tell.cls (some .int) 6 135
def f_X8_tell (x1 : Int32) (x2 : Int32) (I : Mem) : Option (Int32 × Mem) :=
  (if x1 < 0 then some ((-1 : Int32), I) else (if (3 : Int32) ≤ x1 then some ((-1 : Int32), I) else ck (inb x1 3) <| (if x2 < (exv 0 (tn x1)) then some ((-1 : Int32), I) else ck (inb x1 3) <| (if x2 ≤ (exv 1 (tn x1)) then ck (inb x1 3) <| (if (I 4 (tn x1)) = x2 then some ((-2 : Int32), I) else bV (f_X1_keep_15_3 I) fun I4 => ck (inb x1 3) <| bV (f_X8_settleAnew (stm I4 4 (tn x1) x2)) fun I6 => some ((I 4 (tn x1)), I6)) else some ((-1 : Int32), I)))))
set_option maxRecDepth 100000 in
theorem c_X8_tell {G : Gt} (hG : Gok G) (hn : Gn G) (x1 : Int32) (x2 : Int32) (I : Mem) : Cti G yX8_tell cX8_tell 4 (some .int) 6 135 [.ref 0, .int x1, .int x2] I (f_X8_tell x1 x2 I) := by
  refine Cti.of (ls := [some (.ref 0), some (.int x1), some (.int x2), none]) 1 hG (by decide) rfl (Nat.le_of_ble_eq_true rfl) ?_
  unfold f_X8_tell
  refine J_iload_n (pc := 0) (x := x1) dX8_tell_0 rfl ?_
  refine J_if_lt (pc := 1) (tgt := 27) dX8_tell_1 (by decide) ?_ ?_
  · refine J_iconst (pc := 27) (v := (-1 : Int32)) dX8_tell_27 (by decide) ?_
    exact J_iret (pc := 28) dX8_tell_28
  · refine J_iload_n (pc := 4) (x := x1) dX8_tell_4 rfl ?_
    refine J_iconst (pc := 5) (v := (3 : Int32)) dX8_tell_5 (by decide) ?_
    refine J_icmp_ge (pc := 6) (tgt := 27) dX8_tell_6 (by decide) ?_ ?_
    · refine J_iconst (pc := 27) (v := (-1 : Int32)) dX8_tell_27 (by decide) ?_
      exact J_iret (pc := 28) dX8_tell_28
    · refine J_iload_n (pc := 9) (x := x2) dX8_tell_9 rfl ?_
      refine J_gets (pc := 10) (nm := "NUMBER_LEAST") 0 (by decide) wd_236 dX8_tell_10 ?_
      refine J_iload_n (pc := 13) (x := x1) dX8_tell_13 rfl ?_
      refine J_ck (fun hc1 => ?_)
      refine J_eld (pc := 14) (j := 0) (k := (tn x1)) (by decide) (inb_in hc1) rfl dX8_tell_14 ?_
      refine J_icmp_lt (pc := 15) (tgt := 27) dX8_tell_15 (by decide) ?_ ?_
      · refine J_iconst (pc := 27) (v := (-1 : Int32)) dX8_tell_27 (by decide) ?_
        exact J_iret (pc := 28) dX8_tell_28
      · refine J_iload_n (pc := 18) (x := x2) dX8_tell_18 rfl ?_
        refine J_gets (pc := 19) (nm := "NUMBER_MOST") 1 (by decide) wd_237 dX8_tell_19 ?_
        refine J_iload_n (pc := 22) (x := x1) dX8_tell_22 rfl ?_
        refine J_ck (fun hc2 => ?_)
        refine J_eld (pc := 23) (j := 1) (k := (tn x1)) (by decide) (inb_in hc2) rfl dX8_tell_23 ?_
        refine J_icmp_le (pc := 24) (tgt := 29) dX8_tell_24 (by decide) ?_ ?_
        · refine J_aload_n (pc := 29) (x := 0) dX8_tell_29 rfl ?_
          refine J_get (pc := 30) (t := 8) (k := 1) (.ref 3) (ok_c hn 0 (by decide) rfl) (by decide) rfl ingX8 (by decide) wd_72 rfl dX8_tell_30 ?_
          refine J_get (pc := 33) (t := 7) (k := 1) (.ref 4) (ok_c hn 3 (by decide) rfl) (by decide) rfl ingX7 (by decide) wd_238 rfl dX8_tell_33 ?_
          refine J_iload_n (pc := 36) (x := x1) dX8_tell_36 rfl ?_
          refine J_ck (fun hc3 => ?_)
          refine J_ild (pc := 37) (t := 11) (k := (tn x1)) (ok_c hn 4 (by decide) rfl) iT_11 (inb_in hc3) rfl dX8_tell_37 ?_
          refine J_istore_n (pc := 38) (ls' := [some (.ref 0), some (.int x1), some (.int x2), some (.int (I 4 (tn x1)))]) dX8_tell_38 (Nat.le_of_ble_eq_true rfl) rfl rfl ?_
          refine J_iload_n (pc := 39) (x := (I 4 (tn x1))) dX8_tell_39 rfl ?_
          refine J_iload_n (pc := 40) (x := x2) dX8_tell_40 rfl ?_
          refine J_icmp_ne (pc := 41) (tgt := 47) dX8_tell_41 (by decide) ?_ ?_
          · refine J_bipush (pc := 44) (v := (-2 : Int32)) dX8_tell_44 (by decide) ?_
            exact J_iret (pc := 46) dX8_tell_46
          · refine J_aload_n (pc := 47) (x := 0) dX8_tell_47 rfl ?_
            refine J_get (pc := 48) (t := 8) (k := 3) (.ref 15) (ok_c hn 0 (by decide) rfl) (by decide) rfl ingX8 (by decide) wd_80 rfl dX8_tell_48 ?_
            refine J_aload_n (pc := 51) (x := 0) dX8_tell_51 rfl ?_
            refine J_get (pc := 52) (t := 8) (k := 1) (.ref 3) (ok_c hn 0 (by decide) rfl) (by decide) rfl ingX8 (by decide) wd_72 rfl dX8_tell_52 ?_
            refine J_callVv (pc := 55) (t := 1) (as := [.ref 3]) (st := []) (c_X1_keep_15_3 hG hn I) (ok_c hn 15 (by decide) rfl) (by decide) rfl (cw_RX8_97 rfl) wd_248 wd_247 rfl ⟨Nat.le_of_ble_eq_true rfl, Nat.le_of_ble_eq_true rfl, Nat.le_of_ble_eq_true rfl, Nat.le_of_ble_eq_true rfl⟩ (Nat.le_of_ble_eq_true rfl) rfl dX8_tell_55 (fun I4 => ?_)
            refine J_aload_n (pc := 58) (x := 0) dX8_tell_58 rfl ?_
            refine J_get (pc := 59) (t := 8) (k := 1) (.ref 3) (ok_c hn 0 (by decide) rfl) (by decide) rfl ingX8 (by decide) wd_72 rfl dX8_tell_59 ?_
            refine J_get (pc := 62) (t := 7) (k := 1) (.ref 4) (ok_c hn 3 (by decide) rfl) (by decide) rfl ingX7 (by decide) wd_238 rfl dX8_tell_62 ?_
            refine J_iload_n (pc := 65) (x := x1) dX8_tell_65 rfl ?_
            refine J_iload_n (pc := 66) (x := x2) dX8_tell_66 rfl ?_
            refine J_ck (fun hc5 => ?_)
            refine J_ist (pc := 67) (t := 11) (k := (tn x1)) (ok_c hn 4 (by decide) rfl) iT_11 (inb_in hc5) rfl dX8_tell_67 ?_
            refine J_aload_n (pc := 68) (x := 0) dX8_tell_68 rfl ?_
            refine J_callVv (pc := 69) (t := 8) (as := []) (st := []) (c_X8_settleAnew hG hn (stm I4 4 (tn x1) x2)) (ok_c hn 0 (by decide) rfl) (by decide) rfl (cw_RX8_101 rfl) wd_253 wd_252 rfl ⟨Nat.le_of_ble_eq_true rfl, Nat.le_of_ble_eq_true rfl, Nat.le_of_ble_eq_true rfl, Nat.le_of_ble_eq_true rfl⟩ (Nat.le_of_ble_eq_true rfl) rfl dX8_tell_69 (fun I6 => ?_)
            refine J_iload_n (pc := 72) (x := (I 4 (tn x1))) dX8_tell_72 rfl ?_
            exact J_iret (pc := 73) dX8_tell_73
        · refine J_iconst (pc := 27) (v := (-1 : Int32)) dX8_tell_27 (by decide) ?_
          exact J_iret (pc := 28) dX8_tell_28
abbrev mu_X8_isScheme (G : Gt) : Mt (Int32 × Mem) := mi G cX8_isScheme 2 yX8_isScheme.cls (some .boolean) 0 0
def f_X8_isScheme (x1 : Int32) (I : Mem) : Option (Int32 × Mem) :=
  (if x1 < 0 then some ((0 : Int32), I) else (if (I 3 0) ≤ x1 then some ((0 : Int32), I) else some ((1 : Int32), I)))
set_option maxRecDepth 100000 in
theorem c_X8_isScheme {G : Gt} (hG : Gok G) (hn : Gn G) (x1 : Int32) (I : Mem) : Cti G yX8_isScheme cX8_isScheme 2 (some .boolean) 0 0 [.ref 0, .int x1] I (f_X8_isScheme x1 I) := by
  refine Cti.of (ls := [some (.ref 0), some (.int x1)]) 0 hG (by decide) rfl (Nat.le_of_ble_eq_true rfl) ?_
  unfold f_X8_isScheme
  refine J_iload_n (pc := 0) (x := x1) dX8_isScheme_0 rfl ?_
  refine J_if_lt (pc := 1) (tgt := 19) dX8_isScheme_1 (by decide) ?_ ?_
  · refine J_iconst (pc := 19) (v := (0 : Int32)) dX8_isScheme_19 (by decide) ?_
    exact J_zret (pc := 20) rfl dX8_isScheme_20
  · refine J_iload_n (pc := 4) (x := x1) dX8_isScheme_4 rfl ?_
    refine J_aload_n (pc := 5) (x := 0) dX8_isScheme_5 rfl ?_
    refine J_get (pc := 6) (t := 8) (k := 1) (.ref 3) (ok_c hn 0 (by decide) rfl) (by decide) rfl ingX8 (by decide) wd_72 rfl dX8_isScheme_6 ?_
    refine J_get (pc := 9) (t := 7) (k := 0) (.int (I 3 0)) (ok_c hn 3 (by decide) rfl) (by decide) rfl ingX7 (by decide) wd_71 rfl dX8_isScheme_9 ?_
    refine J_icmp_ge (pc := 12) (tgt := 19) dX8_isScheme_12 (by decide) ?_ ?_
    · refine J_iconst (pc := 19) (v := (0 : Int32)) dX8_isScheme_19 (by decide) ?_
      exact J_zret (pc := 20) rfl dX8_isScheme_20
    · refine J_iconst (pc := 15) (v := (1 : Int32)) dX8_isScheme_15 (by decide) ?_
      refine J_goto (pc := 16) (tgt := 20) dX8_isScheme_16 (by decide) ?_
      exact J_zret (pc := 20) rfl dX8_isScheme_20
abbrev mu_X8_price (G : Gt) : Mt (Int32 × Mem) := mi G cX8_price 4 yX8_price.cls (some .int) 6 135
def f_X8_price (x1 : Int32) (x2 : Int32) (I : Mem) : Option (Int32 × Mem) :=
  bI (f_X8_isScheme x1 I) fun r2 I1 => (if r2 = 0 then some ((-1 : Int32), I1) else (if x2 < 0 then some ((-1 : Int32), I1) else (if x2 ≤ (99 : Int32) then ck (inb x1 4) <| (if (I1 7 (tn x1)) = x2 then some ((-2 : Int32), I1) else bV (f_X1_keep_15_3 I1) fun I4 => ck (inb x1 4) <| bV (f_X8_settleAnew (stm I4 7 (tn x1) x2)) fun I6 => some ((I1 7 (tn x1)), I6)) else some ((-1 : Int32), I1))))
set_option maxRecDepth 100000 in
theorem c_X8_price {G : Gt} (hG : Gok G) (hn : Gn G) (x1 : Int32) (x2 : Int32) (I : Mem) : Cti G yX8_price cX8_price 4 (some .int) 6 135 [.ref 0, .int x1, .int x2] I (f_X8_price x1 x2 I) := by
  refine Cti.of (ls := [some (.ref 0), some (.int x1), some (.int x2), none]) 1 hG (by decide) rfl (Nat.le_of_ble_eq_true rfl) ?_
  unfold f_X8_price
  refine J_aload_n (pc := 0) (x := 0) dX8_price_0 rfl ?_
  refine J_iload_n (pc := 1) (x := x1) dX8_price_1 rfl ?_
  refine J_callVi (pc := 2) (t := 8) (as := [.int x1]) (st := []) (c_X8_isScheme hG hn x1 I) (ok_c hn 0 (by decide) rfl) (by decide) rfl (cw_RX8_104 rfl) wd_257 wd_256 rfl ⟨Nat.le_of_ble_eq_true rfl, Nat.le_of_ble_eq_true rfl, Nat.le_of_ble_eq_true rfl, Nat.le_of_ble_eq_true rfl⟩ (Nat.le_of_ble_eq_true rfl) rfl dX8_price_2 (fun r2 I1 => ?_)
  refine J_if_eq (pc := 5) (tgt := 18) dX8_price_5 (by decide) ?_ ?_
  · refine J_iconst (pc := 18) (v := (-1 : Int32)) dX8_price_18 (by decide) ?_
    exact J_iret (pc := 19) dX8_price_19
  · refine J_iload_n (pc := 8) (x := x2) dX8_price_8 rfl ?_
    refine J_if_lt (pc := 9) (tgt := 18) dX8_price_9 (by decide) ?_ ?_
    · refine J_iconst (pc := 18) (v := (-1 : Int32)) dX8_price_18 (by decide) ?_
      exact J_iret (pc := 19) dX8_price_19
    · refine J_iload_n (pc := 12) (x := x2) dX8_price_12 rfl ?_
      refine J_bipush (pc := 13) (v := (99 : Int32)) dX8_price_13 (by decide) ?_
      refine J_icmp_le (pc := 15) (tgt := 20) dX8_price_15 (by decide) ?_ ?_
      · refine J_aload_n (pc := 20) (x := 0) dX8_price_20 rfl ?_
        refine J_get (pc := 21) (t := 8) (k := 1) (.ref 3) (ok_c hn 0 (by decide) rfl) (by decide) rfl ingX8 (by decide) wd_72 rfl dX8_price_21 ?_
        refine J_get (pc := 24) (t := 7) (k := 4) (.ref 7) (ok_c hn 3 (by decide) rfl) (by decide) rfl ingX7 (by decide) wd_260 rfl dX8_price_24 ?_
        refine J_iload_n (pc := 27) (x := x1) dX8_price_27 rfl ?_
        refine J_ck (fun hc3 => ?_)
        refine J_ild (pc := 28) (t := 14) (k := (tn x1)) (ok_c hn 7 (by decide) rfl) iT_14 (inb_in hc3) rfl dX8_price_28 ?_
        refine J_istore_n (pc := 29) (ls' := [some (.ref 0), some (.int x1), some (.int x2), some (.int (I1 7 (tn x1)))]) dX8_price_29 (Nat.le_of_ble_eq_true rfl) rfl rfl ?_
        refine J_iload_n (pc := 30) (x := (I1 7 (tn x1))) dX8_price_30 rfl ?_
        refine J_iload_n (pc := 31) (x := x2) dX8_price_31 rfl ?_
        refine J_icmp_ne (pc := 32) (tgt := 38) dX8_price_32 (by decide) ?_ ?_
        · refine J_bipush (pc := 35) (v := (-2 : Int32)) dX8_price_35 (by decide) ?_
          exact J_iret (pc := 37) dX8_price_37
        · refine J_aload_n (pc := 38) (x := 0) dX8_price_38 rfl ?_
          refine J_get (pc := 39) (t := 8) (k := 3) (.ref 15) (ok_c hn 0 (by decide) rfl) (by decide) rfl ingX8 (by decide) wd_80 rfl dX8_price_39 ?_
          refine J_aload_n (pc := 42) (x := 0) dX8_price_42 rfl ?_
          refine J_get (pc := 43) (t := 8) (k := 1) (.ref 3) (ok_c hn 0 (by decide) rfl) (by decide) rfl ingX8 (by decide) wd_72 rfl dX8_price_43 ?_
          refine J_callVv (pc := 46) (t := 1) (as := [.ref 3]) (st := []) (c_X1_keep_15_3 hG hn I1) (ok_c hn 15 (by decide) rfl) (by decide) rfl (cw_RX8_97 rfl) wd_248 wd_247 rfl ⟨Nat.le_of_ble_eq_true rfl, Nat.le_of_ble_eq_true rfl, Nat.le_of_ble_eq_true rfl, Nat.le_of_ble_eq_true rfl⟩ (Nat.le_of_ble_eq_true rfl) rfl dX8_price_46 (fun I4 => ?_)
          refine J_aload_n (pc := 49) (x := 0) dX8_price_49 rfl ?_
          refine J_get (pc := 50) (t := 8) (k := 1) (.ref 3) (ok_c hn 0 (by decide) rfl) (by decide) rfl ingX8 (by decide) wd_72 rfl dX8_price_50 ?_
          refine J_get (pc := 53) (t := 7) (k := 4) (.ref 7) (ok_c hn 3 (by decide) rfl) (by decide) rfl ingX7 (by decide) wd_260 rfl dX8_price_53 ?_
          refine J_iload_n (pc := 56) (x := x1) dX8_price_56 rfl ?_
          refine J_iload_n (pc := 57) (x := x2) dX8_price_57 rfl ?_
          refine J_ck (fun hc5 => ?_)
          refine J_ist (pc := 58) (t := 14) (k := (tn x1)) (ok_c hn 7 (by decide) rfl) iT_14 (inb_in hc5) rfl dX8_price_58 ?_
          refine J_aload_n (pc := 59) (x := 0) dX8_price_59 rfl ?_
          refine J_callVv (pc := 60) (t := 8) (as := []) (st := []) (c_X8_settleAnew hG hn (stm I4 7 (tn x1) x2)) (ok_c hn 0 (by decide) rfl) (by decide) rfl (cw_RX8_101 rfl) wd_253 wd_252 rfl ⟨Nat.le_of_ble_eq_true rfl, Nat.le_of_ble_eq_true rfl, Nat.le_of_ble_eq_true rfl, Nat.le_of_ble_eq_true rfl⟩ (Nat.le_of_ble_eq_true rfl) rfl dX8_price_60 (fun I6 => ?_)
          refine J_iload_n (pc := 63) (x := (I1 7 (tn x1))) dX8_price_63 rfl ?_
          exact J_iret (pc := 64) dX8_price_64
      · refine J_iconst (pc := 18) (v := (-1 : Int32)) dX8_price_18 (by decide) ?_
        exact J_iret (pc := 19) dX8_price_19
abbrev mu_X8_folds (G : Gt) : Mt (Int32 × Mem) := mi G cX8_folds 3 yX8_folds.cls (some .int) 6 135
def j_X8_folds_65 (x1 : Int32) (x2 : Int32) (I : Mem) : Option (Int32 × Mem) :=
  bV (f_X1_keep_15_3 I) fun I7 => ck (inb x1 4) <| ck (inb x1 4) <| bV (f_X8_settleAnew (stm (stm I7 5 (tn x1) (I7 1 1)) 6 (tn x1) x2)) fun I10 => some ((I10 1 1), I10)
def f_X8_folds (x1 : Int32) (I : Mem) : Option (Int32 × Mem) :=
  bI (f_X8_isScheme x1 I) fun r2 I1 => (if r2 = 0 then some ((-1 : Int32), I1) else bI (f_X6_foldsIn (0 : Int32) (I1 1 1) I1) fun r4 I3 => (if r4 < 0 then some ((-2 : Int32), I3) else ck (inb x1 4) <| (if (I3 1 1) = (I3 5 (tn x1)) then ck (inb x1 4) <| (if r4 = (I3 6 (tn x1)) then some ((-2 : Int32), I3) else j_X8_folds_65 x1 r4 I3) else j_X8_folds_65 x1 r4 I3)))
set_option maxRecDepth 100000 in
theorem tj_X8_folds_65 {G : Gt} (hG : Gok G) (hn : Gn G) (x1 : Int32) (x2 : Int32) (I : Mem) : J G (mu_X8_folds G) 65 [some (.ref 0), some (.int x1), some (.int x2)] [] I (j_X8_folds_65 x1 x2 I) := by
  unfold j_X8_folds_65
  refine J_aload_n (pc := 65) (x := 0) dX8_folds_65 rfl ?_
  refine J_get (pc := 66) (t := 8) (k := 3) (.ref 15) (ok_c hn 0 (by decide) rfl) (by decide) rfl ingX8 (by decide) wd_80 rfl dX8_folds_66 ?_
  refine J_aload_n (pc := 69) (x := 0) dX8_folds_69 rfl ?_
  refine J_get (pc := 70) (t := 8) (k := 1) (.ref 3) (ok_c hn 0 (by decide) rfl) (by decide) rfl ingX8 (by decide) wd_72 rfl dX8_folds_70 ?_
  refine J_callVv (pc := 73) (t := 1) (as := [.ref 3]) (st := []) (c_X1_keep_15_3 hG hn I) (ok_c hn 15 (by decide) rfl) (by decide) rfl (cw_RX8_97 rfl) wd_248 wd_247 rfl ⟨Nat.le_of_ble_eq_true rfl, Nat.le_of_ble_eq_true rfl, Nat.le_of_ble_eq_true rfl, Nat.le_of_ble_eq_true rfl⟩ (Nat.le_of_ble_eq_true rfl) rfl dX8_folds_73 (fun I7 => ?_)
  refine J_aload_n (pc := 76) (x := 0) dX8_folds_76 rfl ?_
  refine J_get (pc := 77) (t := 8) (k := 1) (.ref 3) (ok_c hn 0 (by decide) rfl) (by decide) rfl ingX8 (by decide) wd_72 rfl dX8_folds_77 ?_
  refine J_get (pc := 80) (t := 7) (k := 2) (.ref 5) (ok_c hn 3 (by decide) rfl) (by decide) rfl ingX7 (by decide) wd_83 rfl dX8_folds_80 ?_
  refine J_iload_n (pc := 83) (x := x1) dX8_folds_83 rfl ?_
  refine J_aload_n (pc := 84) (x := 0) dX8_folds_84 rfl ?_
  refine J_get (pc := 85) (t := 8) (k := 0) (.ref 1) (ok_c hn 0 (by decide) rfl) (by decide) rfl ingX8 (by decide) wd_0 rfl dX8_folds_85 ?_
  refine J_get (pc := 88) (t := 6) (k := 1) (.int (I7 1 1)) (ok_c hn 1 (by decide) rfl) (by decide) rfl ingX6 (by decide) wd_227 rfl dX8_folds_88 ?_
  refine J_ck (fun hc8 => ?_)
  refine J_ist (pc := 91) (t := 12) (k := (tn x1)) (ok_c hn 5 (by decide) rfl) iT_12 (inb_in hc8) rfl dX8_folds_91 ?_
  refine J_aload_n (pc := 92) (x := 0) dX8_folds_92 rfl ?_
  refine J_get (pc := 93) (t := 8) (k := 1) (.ref 3) (ok_c hn 0 (by decide) rfl) (by decide) rfl ingX8 (by decide) wd_72 rfl dX8_folds_93 ?_
  refine J_get (pc := 96) (t := 7) (k := 3) (.ref 6) (ok_c hn 3 (by decide) rfl) (by decide) rfl ingX7 (by decide) wd_84 rfl dX8_folds_96 ?_
  refine J_iload_n (pc := 99) (x := x1) dX8_folds_99 rfl ?_
  refine J_iload_n (pc := 100) (x := x2) dX8_folds_100 rfl ?_
  refine J_ck (fun hc9 => ?_)
  refine J_ist (pc := 101) (t := 13) (k := (tn x1)) (ok_c hn 6 (by decide) rfl) iT_13 (inb_in hc9) rfl dX8_folds_101 ?_
  refine J_aload_n (pc := 102) (x := 0) dX8_folds_102 rfl ?_
  refine J_callVv (pc := 103) (t := 8) (as := []) (st := []) (c_X8_settleAnew hG hn (stm (stm I7 5 (tn x1) (I7 1 1)) 6 (tn x1) x2)) (ok_c hn 0 (by decide) rfl) (by decide) rfl (cw_RX8_101 rfl) wd_253 wd_252 rfl ⟨Nat.le_of_ble_eq_true rfl, Nat.le_of_ble_eq_true rfl, Nat.le_of_ble_eq_true rfl, Nat.le_of_ble_eq_true rfl⟩ (Nat.le_of_ble_eq_true rfl) rfl dX8_folds_103 (fun I10 => ?_)
  refine J_aload_n (pc := 106) (x := 0) dX8_folds_106 rfl ?_
  refine J_get (pc := 107) (t := 8) (k := 0) (.ref 1) (ok_c hn 0 (by decide) rfl) (by decide) rfl ingX8 (by decide) wd_0 rfl dX8_folds_107 ?_
  refine J_get (pc := 110) (t := 6) (k := 1) (.int (I10 1 1)) (ok_c hn 1 (by decide) rfl) (by decide) rfl ingX6 (by decide) wd_227 rfl dX8_folds_110 ?_
  exact J_iret (pc := 113) dX8_folds_113
set_option maxRecDepth 100000 in
theorem c_X8_folds {G : Gt} (hG : Gok G) (hn : Gn G) (x1 : Int32) (I : Mem) : Cti G yX8_folds cX8_folds 3 (some .int) 6 135 [.ref 0, .int x1] I (f_X8_folds x1 I) := by
  refine Cti.of (ls := [some (.ref 0), some (.int x1), none]) 1 hG (by decide) rfl (Nat.le_of_ble_eq_true rfl) ?_
  unfold f_X8_folds
  refine J_aload_n (pc := 0) (x := 0) dX8_folds_0 rfl ?_
  refine J_iload_n (pc := 1) (x := x1) dX8_folds_1 rfl ?_
  refine J_callVi (pc := 2) (t := 8) (as := [.int x1]) (st := []) (c_X8_isScheme hG hn x1 I) (ok_c hn 0 (by decide) rfl) (by decide) rfl (cw_RX8_104 rfl) wd_257 wd_256 rfl ⟨Nat.le_of_ble_eq_true rfl, Nat.le_of_ble_eq_true rfl, Nat.le_of_ble_eq_true rfl, Nat.le_of_ble_eq_true rfl⟩ (Nat.le_of_ble_eq_true rfl) rfl dX8_folds_2 (fun r2 I1 => ?_)
  refine J_if_ne (pc := 5) (tgt := 10) dX8_folds_5 (by decide) ?_ ?_
  · refine J_iconst (pc := 8) (v := (-1 : Int32)) dX8_folds_8 (by decide) ?_
    exact J_iret (pc := 9) dX8_folds_9
  · refine J_aload_n (pc := 10) (x := 0) dX8_folds_10 rfl ?_
    refine J_get (pc := 11) (t := 8) (k := 0) (.ref 1) (ok_c hn 0 (by decide) rfl) (by decide) rfl ingX8 (by decide) wd_0 rfl dX8_folds_11 ?_
    refine J_iconst (pc := 14) (v := (0 : Int32)) dX8_folds_14 (by decide) ?_
    refine J_aload_n (pc := 15) (x := 0) dX8_folds_15 rfl ?_
    refine J_get (pc := 16) (t := 8) (k := 0) (.ref 1) (ok_c hn 0 (by decide) rfl) (by decide) rfl ingX8 (by decide) wd_0 rfl dX8_folds_16 ?_
    refine J_get (pc := 19) (t := 6) (k := 1) (.int (I1 1 1)) (ok_c hn 1 (by decide) rfl) (by decide) rfl ingX6 (by decide) wd_227 rfl dX8_folds_19 ?_
    refine J_callVi (pc := 22) (t := 6) (as := [.int (0 : Int32), .int (I1 1 1)]) (st := []) (c_X6_foldsIn hG hn (0 : Int32) (I1 1 1) I1) (ok_c hn 1 (by decide) rfl) (by decide) rfl (cw_RX8_111 rfl) wd_29 wd_28 rfl ⟨Nat.le_of_ble_eq_true rfl, Nat.le_of_ble_eq_true rfl, Nat.le_of_ble_eq_true rfl, Nat.le_of_ble_eq_true rfl⟩ (Nat.le_of_ble_eq_true rfl) rfl dX8_folds_22 (fun r4 I3 => ?_)
    refine J_istore_n (pc := 25) (ls' := [some (.ref 0), some (.int x1), some (.int r4)]) dX8_folds_25 (Nat.le_of_ble_eq_true rfl) rfl rfl ?_
    refine J_iload_n (pc := 26) (x := r4) dX8_folds_26 rfl ?_
    refine J_if_lt (pc := 27) (tgt := 62) dX8_folds_27 (by decide) ?_ ?_
    · refine J_bipush (pc := 62) (v := (-2 : Int32)) dX8_folds_62 (by decide) ?_
      exact J_iret (pc := 64) dX8_folds_64
    · refine J_aload_n (pc := 30) (x := 0) dX8_folds_30 rfl ?_
      refine J_get (pc := 31) (t := 8) (k := 0) (.ref 1) (ok_c hn 0 (by decide) rfl) (by decide) rfl ingX8 (by decide) wd_0 rfl dX8_folds_31 ?_
      refine J_get (pc := 34) (t := 6) (k := 1) (.int (I3 1 1)) (ok_c hn 1 (by decide) rfl) (by decide) rfl ingX6 (by decide) wd_227 rfl dX8_folds_34 ?_
      refine J_aload_n (pc := 37) (x := 0) dX8_folds_37 rfl ?_
      refine J_get (pc := 38) (t := 8) (k := 1) (.ref 3) (ok_c hn 0 (by decide) rfl) (by decide) rfl ingX8 (by decide) wd_72 rfl dX8_folds_38 ?_
      refine J_get (pc := 41) (t := 7) (k := 2) (.ref 5) (ok_c hn 3 (by decide) rfl) (by decide) rfl ingX7 (by decide) wd_83 rfl dX8_folds_41 ?_
      refine J_iload_n (pc := 44) (x := x1) dX8_folds_44 rfl ?_
      refine J_ck (fun hc5 => ?_)
      refine J_ild (pc := 45) (t := 12) (k := (tn x1)) (ok_c hn 5 (by decide) rfl) iT_12 (inb_in hc5) rfl dX8_folds_45 ?_
      refine J_icmp_ne (pc := 46) (tgt := 65) dX8_folds_46 (by decide) ?_ ?_
      · refine J_iload_n (pc := 49) (x := r4) dX8_folds_49 rfl ?_
        refine J_aload_n (pc := 50) (x := 0) dX8_folds_50 rfl ?_
        refine J_get (pc := 51) (t := 8) (k := 1) (.ref 3) (ok_c hn 0 (by decide) rfl) (by decide) rfl ingX8 (by decide) wd_72 rfl dX8_folds_51 ?_
        refine J_get (pc := 54) (t := 7) (k := 3) (.ref 6) (ok_c hn 3 (by decide) rfl) (by decide) rfl ingX7 (by decide) wd_84 rfl dX8_folds_54 ?_
        refine J_iload_n (pc := 57) (x := x1) dX8_folds_57 rfl ?_
        refine J_ck (fun hc6 => ?_)
        refine J_ild (pc := 58) (t := 13) (k := (tn x1)) (ok_c hn 6 (by decide) rfl) iT_13 (inb_in hc6) rfl dX8_folds_58 ?_
        refine J_icmp_ne (pc := 59) (tgt := 65) dX8_folds_59 (by decide) ?_ ?_
        · refine J_bipush (pc := 62) (v := (-2 : Int32)) dX8_folds_62 (by decide) ?_
          exact J_iret (pc := 64) dX8_folds_64
        · exact tj_X8_folds_65 hG hn x1 r4 I3
      · exact tj_X8_folds_65 hG hn x1 r4 I3
abbrev mu_X8_isSheet (G : Gt) : Mt (Int32 × Mem) := mi G cX8_isSheet 2 yX8_isSheet.cls (some .boolean) 0 0
def f_X8_isSheet (x1 : Int32) (I : Mem) : Option (Int32 × Mem) :=
  (if x1 < 0 then some ((0 : Int32), I) else (if (I 84 0) ≤ x1 then some ((0 : Int32), I) else some ((1 : Int32), I)))
set_option maxRecDepth 100000 in
theorem c_X8_isSheet {G : Gt} (hG : Gok G) (hn : Gn G) (x1 : Int32) (I : Mem) : Cti G yX8_isSheet cX8_isSheet 2 (some .boolean) 0 0 [.ref 0, .int x1] I (f_X8_isSheet x1 I) := by
  refine Cti.of (ls := [some (.ref 0), some (.int x1)]) 0 hG (by decide) rfl (Nat.le_of_ble_eq_true rfl) ?_
  unfold f_X8_isSheet
  refine J_iload_n (pc := 0) (x := x1) dX8_isSheet_0 rfl ?_
  refine J_if_lt (pc := 1) (tgt := 19) dX8_isSheet_1 (by decide) ?_ ?_
  · refine J_iconst (pc := 19) (v := (0 : Int32)) dX8_isSheet_19 (by decide) ?_
    exact J_zret (pc := 20) rfl dX8_isSheet_20
  · refine J_iload_n (pc := 4) (x := x1) dX8_isSheet_4 rfl ?_
    refine J_aload_n (pc := 5) (x := 0) dX8_isSheet_5 rfl ?_
    refine J_get (pc := 6) (t := 8) (k := 7) (.ref 84) (ok_c hn 0 (by decide) rfl) (by decide) rfl ingX8 (by decide) wd_191 rfl dX8_isSheet_6 ?_
    refine J_get (pc := 9) (t := 0) (k := 0) (.int (I 84 0)) (ok_c hn 84 (by decide) rfl) (by decide) rfl ingX0 (by decide) wd_262 rfl dX8_isSheet_9 ?_
    refine J_icmp_ge (pc := 12) (tgt := 19) dX8_isSheet_12 (by decide) ?_ ?_
    · refine J_iconst (pc := 19) (v := (0 : Int32)) dX8_isSheet_19 (by decide) ?_
      exact J_zret (pc := 20) rfl dX8_isSheet_20
    · refine J_iconst (pc := 15) (v := (1 : Int32)) dX8_isSheet_15 (by decide) ?_
      refine J_goto (pc := 16) (tgt := 20) dX8_isSheet_16 (by decide) ?_
      exact J_zret (pc := 20) rfl dX8_isSheet_20
abbrev mu_X7_spoiledSheets (G : Gt) : Mt (Int32 × Mem) := mi G cX7_spoiledSheets 3 yX7_spoiledSheets.cls (some .int) 0 0
def b_X7_spoiledSheets_4 (K25 : Int32 → Mem → Option (Int32 × Mem)) (R : Int32 → Int32 → Mem → Option (Int32 × Mem)) (x1 : Int32) (x2 : Int32) (I : Mem) : Option (Int32 × Mem) :=
  (if (100 : Int32) ≤ x2 then K25 x1 I else ck (inb x2 100) <| R (x1 + (I 8 (tn x2))) (x2 + (1 : Int32)) I)
def l_X7_spoiledSheets_4 (K25 : Int32 → Mem → Option (Int32 × Mem)) : Nat → Int32 → Int32 → Mem → Option (Int32 × Mem) := fx (b_X7_spoiledSheets_4 K25) (fun _ _ _ => none)
def f_X7_spoiledSheets (I : Mem) : Option (Int32 × Mem) :=
  l_X7_spoiledSheets_4 (fun (z2 : Int32) I3 => some (z2, I3)) fuel (0 : Int32) (0 : Int32) I
set_option maxRecDepth 100000 in
theorem tb_X7_spoiledSheets_4 {G : Gt} (hG : Gok G) (hn : Gn G) {K25 : Int32 → Mem → Option (Int32 × Mem)} (hK25 : ∀ (x1 : Int32) (I : Mem), J G (mu_X7_spoiledSheets G) 25 [none, some (.int x1), none] [] I (K25 x1 I)) {R : Int32 → Int32 → Mem → Option (Int32 × Mem)} (hR : ∀ (x1 : Int32) (x2 : Int32) (I : Mem), J G (mu_X7_spoiledSheets G) 4 [some (.ref 3), some (.int x1), some (.int x2)] [] I (R x1 x2 I)) (x1 : Int32) (x2 : Int32) (I : Mem) : J G (mu_X7_spoiledSheets G) 4 [some (.ref 3), some (.int x1), some (.int x2)] [] I (b_X7_spoiledSheets_4 K25 R x1 x2 I) := by
  unfold b_X7_spoiledSheets_4
  refine J_iload_n (pc := 4) (x := x2) dX7_spoiledSheets_4 rfl ?_
  refine J_bipush (pc := 5) (v := (100 : Int32)) dX7_spoiledSheets_5 (by decide) ?_
  refine J_icmp_ge (pc := 7) (tgt := 25) dX7_spoiledSheets_7 (by decide) ?_ ?_
  · refine J_weak (ls' := [none, some (.int x1), none]) ⟨rfl, trivial⟩ ?_
    exact hK25 x1 I
  · refine J_iload_n (pc := 10) (x := x1) dX7_spoiledSheets_10 rfl ?_
    refine J_aload_n (pc := 11) (x := 3) dX7_spoiledSheets_11 rfl ?_
    refine J_get (pc := 12) (t := 7) (k := 5) (.ref 8) (ok_c hn 3 (by decide) rfl) (by decide) rfl ingX7 (by decide) wd_4 rfl dX7_spoiledSheets_12 ?_
    refine J_iload_n (pc := 15) (x := x2) dX7_spoiledSheets_15 rfl ?_
    refine J_ck (fun hc1 => ?_)
    refine J_ild (pc := 16) (t := 15) (k := (tn x2)) (ok_c hn 8 (by decide) rfl) iT_15 (inb_in hc1) rfl dX7_spoiledSheets_16 ?_
    refine J_iadd (pc := 17) dX7_spoiledSheets_17 ?_
    refine J_istore_n (pc := 18) (ls' := [some (.ref 3), some (.int (x1 + (I 8 (tn x2)))), some (.int x2)]) dX7_spoiledSheets_18 (Nat.le_of_ble_eq_true rfl) rfl rfl ?_
    refine J_iinc (pc := 19) (d := (1 : Int32)) (ls' := [some (.ref 3), some (.int (x1 + (I 8 (tn x2)))), some (.int (x2 + (1 : Int32)))]) dX7_spoiledSheets_19 (by decide) rfl (Nat.le_of_ble_eq_true rfl) rfl rfl ?_
    refine J_goto (pc := 22) (tgt := 4) dX7_spoiledSheets_22 (by decide) ?_
    exact hR (x1 + (I 8 (tn x2))) (x2 + (1 : Int32)) I
theorem tl_X7_spoiledSheets_4 {G : Gt} (hG : Gok G) (hn : Gn G) {K25 : Int32 → Mem → Option (Int32 × Mem)} (hK25 : ∀ (x1 : Int32) (I : Mem), J G (mu_X7_spoiledSheets G) 25 [none, some (.int x1), none] [] I (K25 x1 I)) (n : Nat) : ∀ (x1 : Int32) (x2 : Int32) (I : Mem), J G (mu_X7_spoiledSheets G) 4 [some (.ref 3), some (.int x1), some (.int x2)] [] I (l_X7_spoiledSheets_4 K25 n x1 x2 I) := by
  induction n with
  | zero => intro x1 x2 I; exact J_none
  | succ n ih => intro x1 x2 I; exact tb_X7_spoiledSheets_4 hG hn hK25 ih x1 x2 I
set_option maxRecDepth 100000 in
theorem c_X7_spoiledSheets {G : Gt} (hG : Gok G) (hn : Gn G) (I : Mem) : Cti G yX7_spoiledSheets cX7_spoiledSheets 3 (some .int) 0 0 [.ref 3] I (f_X7_spoiledSheets I) := by
  refine Cti.of (ls := [some (.ref 3), none, none]) 2 hG (by decide) rfl (Nat.le_of_ble_eq_true rfl) ?_
  unfold f_X7_spoiledSheets
  refine J_iconst (pc := 0) (v := (0 : Int32)) dX7_spoiledSheets_0 (by decide) ?_
  refine J_istore_n (pc := 1) (ls' := [some (.ref 3), some (.int (0 : Int32)), none]) dX7_spoiledSheets_1 (Nat.le_of_ble_eq_true rfl) rfl rfl ?_
  refine J_iconst (pc := 2) (v := (0 : Int32)) dX7_spoiledSheets_2 (by decide) ?_
  refine J_istore_n (pc := 3) (ls' := [some (.ref 3), some (.int (0 : Int32)), some (.int (0 : Int32))]) dX7_spoiledSheets_3 (Nat.le_of_ble_eq_true rfl) rfl rfl ?_
  refine tl_X7_spoiledSheets_4 hG hn (fun z2 I3 => ?_) fuel (0 : Int32) (0 : Int32) I
  · refine J_iload_n (pc := 25) (x := z2) dX7_spoiledSheets_25 rfl ?_
    exact J_iret (pc := 26) dX7_spoiledSheets_26
abbrev mu_X8_spoil (G : Gt) : Mt (Int32 × Mem) := mi G cX8_spoil 3 yX8_spoil.cls (some .int) 3 64
def f_X8_spoil (x1 : Int32) (x2 : Int32) (I : Mem) : Option (Int32 × Mem) :=
  bI (f_X8_isSheet x1 I) fun r2 I1 => (if r2 = 0 then some ((-1 : Int32), I1) else (if x2 < 0 then some ((-1 : Int32), I1) else (if x2 ≤ (1 : Int32) then ck (inb x1 100) <| (if (I1 8 (tn x1)) = x2 then some ((-2 : Int32), I1) else bV (f_X1_keep_15_3 I1) fun I4 => ck (inb x1 100) <| bI (f_X7_spoiledSheets (stm I4 8 (tn x1) x2)) fun r7 I6 => some (r7, I6)) else some ((-1 : Int32), I1))))
set_option maxRecDepth 100000 in
theorem c_X8_spoil {G : Gt} (hG : Gok G) (hn : Gn G) (x1 : Int32) (x2 : Int32) (I : Mem) : Cti G yX8_spoil cX8_spoil 3 (some .int) 3 64 [.ref 0, .int x1, .int x2] I (f_X8_spoil x1 x2 I) := by
  refine Cti.of (ls := [some (.ref 0), some (.int x1), some (.int x2)]) 0 hG (by decide) rfl (Nat.le_of_ble_eq_true rfl) ?_
  unfold f_X8_spoil
  refine J_aload_n (pc := 0) (x := 0) dX8_spoil_0 rfl ?_
  refine J_iload_n (pc := 1) (x := x1) dX8_spoil_1 rfl ?_
  refine J_callVi (pc := 2) (t := 8) (as := [.int x1]) (st := []) (c_X8_isSheet hG hn x1 I) (ok_c hn 0 (by decide) rfl) (by decide) rfl (cw_RX8_121 rfl) wd_264 wd_263 rfl ⟨Nat.le_of_ble_eq_true rfl, Nat.le_of_ble_eq_true rfl, Nat.le_of_ble_eq_true rfl, Nat.le_of_ble_eq_true rfl⟩ (Nat.le_of_ble_eq_true rfl) rfl dX8_spoil_2 (fun r2 I1 => ?_)
  refine J_if_eq (pc := 5) (tgt := 17) dX8_spoil_5 (by decide) ?_ ?_
  · refine J_iconst (pc := 17) (v := (-1 : Int32)) dX8_spoil_17 (by decide) ?_
    exact J_iret (pc := 18) dX8_spoil_18
  · refine J_iload_n (pc := 8) (x := x2) dX8_spoil_8 rfl ?_
    refine J_if_lt (pc := 9) (tgt := 17) dX8_spoil_9 (by decide) ?_ ?_
    · refine J_iconst (pc := 17) (v := (-1 : Int32)) dX8_spoil_17 (by decide) ?_
      exact J_iret (pc := 18) dX8_spoil_18
    · refine J_iload_n (pc := 12) (x := x2) dX8_spoil_12 rfl ?_
      refine J_iconst (pc := 13) (v := (1 : Int32)) dX8_spoil_13 (by decide) ?_
      refine J_icmp_le (pc := 14) (tgt := 19) dX8_spoil_14 (by decide) ?_ ?_
      · refine J_aload_n (pc := 19) (x := 0) dX8_spoil_19 rfl ?_
        refine J_get (pc := 20) (t := 8) (k := 1) (.ref 3) (ok_c hn 0 (by decide) rfl) (by decide) rfl ingX8 (by decide) wd_72 rfl dX8_spoil_20 ?_
        refine J_get (pc := 23) (t := 7) (k := 5) (.ref 8) (ok_c hn 3 (by decide) rfl) (by decide) rfl ingX7 (by decide) wd_267 rfl dX8_spoil_23 ?_
        refine J_iload_n (pc := 26) (x := x1) dX8_spoil_26 rfl ?_
        refine J_ck (fun hc3 => ?_)
        refine J_ild (pc := 27) (t := 15) (k := (tn x1)) (ok_c hn 8 (by decide) rfl) iT_15 (inb_in hc3) rfl dX8_spoil_27 ?_
        refine J_iload_n (pc := 28) (x := x2) dX8_spoil_28 rfl ?_
        refine J_icmp_ne (pc := 29) (tgt := 35) dX8_spoil_29 (by decide) ?_ ?_
        · refine J_bipush (pc := 32) (v := (-2 : Int32)) dX8_spoil_32 (by decide) ?_
          exact J_iret (pc := 34) dX8_spoil_34
        · refine J_aload_n (pc := 35) (x := 0) dX8_spoil_35 rfl ?_
          refine J_get (pc := 36) (t := 8) (k := 3) (.ref 15) (ok_c hn 0 (by decide) rfl) (by decide) rfl ingX8 (by decide) wd_80 rfl dX8_spoil_36 ?_
          refine J_aload_n (pc := 39) (x := 0) dX8_spoil_39 rfl ?_
          refine J_get (pc := 40) (t := 8) (k := 1) (.ref 3) (ok_c hn 0 (by decide) rfl) (by decide) rfl ingX8 (by decide) wd_72 rfl dX8_spoil_40 ?_
          refine J_callVv (pc := 43) (t := 1) (as := [.ref 3]) (st := []) (c_X1_keep_15_3 hG hn I1) (ok_c hn 15 (by decide) rfl) (by decide) rfl (cw_RX8_97 rfl) wd_248 wd_247 rfl ⟨Nat.le_of_ble_eq_true rfl, Nat.le_of_ble_eq_true rfl, Nat.le_of_ble_eq_true rfl, Nat.le_of_ble_eq_true rfl⟩ (Nat.le_of_ble_eq_true rfl) rfl dX8_spoil_43 (fun I4 => ?_)
          refine J_aload_n (pc := 46) (x := 0) dX8_spoil_46 rfl ?_
          refine J_get (pc := 47) (t := 8) (k := 1) (.ref 3) (ok_c hn 0 (by decide) rfl) (by decide) rfl ingX8 (by decide) wd_72 rfl dX8_spoil_47 ?_
          refine J_get (pc := 50) (t := 7) (k := 5) (.ref 8) (ok_c hn 3 (by decide) rfl) (by decide) rfl ingX7 (by decide) wd_267 rfl dX8_spoil_50 ?_
          refine J_iload_n (pc := 53) (x := x1) dX8_spoil_53 rfl ?_
          refine J_iload_n (pc := 54) (x := x2) dX8_spoil_54 rfl ?_
          refine J_ck (fun hc5 => ?_)
          refine J_ist (pc := 55) (t := 15) (k := (tn x1)) (ok_c hn 8 (by decide) rfl) iT_15 (inb_in hc5) rfl dX8_spoil_55 ?_
          refine J_aload_n (pc := 56) (x := 0) dX8_spoil_56 rfl ?_
          refine J_get (pc := 57) (t := 8) (k := 1) (.ref 3) (ok_c hn 0 (by decide) rfl) (by decide) rfl ingX8 (by decide) wd_72 rfl dX8_spoil_57 ?_
          refine J_callVi (pc := 60) (t := 7) (as := []) (st := []) (c_X7_spoiledSheets hG hn (stm I4 8 (tn x1) x2)) (ok_c hn 3 (by decide) rfl) (by decide) rfl (cw_RX8_127 rfl) wd_269 wd_268 rfl ⟨Nat.le_of_ble_eq_true rfl, Nat.le_of_ble_eq_true rfl, Nat.le_of_ble_eq_true rfl, Nat.le_of_ble_eq_true rfl⟩ (Nat.le_of_ble_eq_true rfl) rfl dX8_spoil_60 (fun r7 I6 => ?_)
          exact J_iret (pc := 63) dX8_spoil_63
      · refine J_iconst (pc := 17) (v := (-1 : Int32)) dX8_spoil_17 (by decide) ?_
        exact J_iret (pc := 18) dX8_spoil_18
abbrev mu_X7_copyRow_v11_4 (G : Gt) : Mt Mem := mv G cX7_copyRow 3 yX7_copyRow.cls 0 0
def b_X7_copyRow_v11_4_2 (K26 : Mem → Option Mem) (R : Nat → Int32 → Mem → Option Mem) (a0 : Nat) (x2 : Int32) (I : Mem) : Option Mem :=
  (if (3 : Int32) ≤ x2 then K26 I else (if (3 : Int32) ≤ x2 then K26 I else ck (inb x2 3) <| ck (inb x2 3) <| R a0 (x2 + (1 : Int32)) (stm I 4 (tn x2) (I a0 (tn x2)))))
def l_X7_copyRow_v11_4_2 (K26 : Mem → Option Mem) : Nat → Nat → Int32 → Mem → Option Mem := fx (b_X7_copyRow_v11_4_2 K26) (fun _ _ _ => none)
def f_X7_copyRow_v11_4 (a0 : Nat) (I : Mem) : Option Mem :=
  l_X7_copyRow_v11_4_2 (fun I3 => some I3) fuel a0 (0 : Int32) I
set_option maxRecDepth 100000 in
theorem tb_X7_copyRow_v11_4_2 {G : Gt} (hG : Gok G) (hn : Gn G) {K26 : Mem → Option Mem} (hK26 : ∀ (I : Mem), J G (mu_X7_copyRow_v11_4 G) 26 [none, none, none] [] I (K26 I)) {R : Nat → Int32 → Mem → Option Mem} (hR : ∀ (a0 : Nat) (x2 : Int32) (o0 : ok G a0 11) (I : Mem), J G (mu_X7_copyRow_v11_4 G) 2 [some (.ref a0), some (.ref 4), some (.int x2)] [] I (R a0 x2 I)) (a0 : Nat) (x2 : Int32) (o0 : ok G a0 11) (I : Mem) : J G (mu_X7_copyRow_v11_4 G) 2 [some (.ref a0), some (.ref 4), some (.int x2)] [] I (b_X7_copyRow_v11_4_2 K26 R a0 x2 I) := by
  unfold b_X7_copyRow_v11_4_2
  refine J_iload_n (pc := 2) (x := x2) dX7_copyRow_2 rfl ?_
  refine J_aload_n (pc := 3) (x := a0) dX7_copyRow_3 rfl ?_
  refine J_aln (pc := 4) (t := 11) (v := (3 : Int32)) o0 iT_11 (by decide) dX7_copyRow_4 ?_
  refine J_icmp_ge (pc := 5) (tgt := 26) dX7_copyRow_5 (by decide) ?_ ?_
  · refine J_weak (ls' := [none, none, none]) trivial ?_
    exact hK26 I
  · refine J_iload_n (pc := 8) (x := x2) dX7_copyRow_8 rfl ?_
    refine J_aload_n (pc := 9) (x := 4) dX7_copyRow_9 rfl ?_
    refine J_aln (pc := 10) (t := 11) (v := (3 : Int32)) (ok_c hn 4 (by decide) rfl) iT_11 (by decide) dX7_copyRow_10 ?_
    refine J_icmp_ge (pc := 11) (tgt := 26) dX7_copyRow_11 (by decide) ?_ ?_
    · refine J_weak (ls' := [none, none, none]) trivial ?_
      exact hK26 I
    · refine J_aload_n (pc := 14) (x := 4) dX7_copyRow_14 rfl ?_
      refine J_iload_n (pc := 15) (x := x2) dX7_copyRow_15 rfl ?_
      refine J_aload_n (pc := 16) (x := a0) dX7_copyRow_16 rfl ?_
      refine J_iload_n (pc := 17) (x := x2) dX7_copyRow_17 rfl ?_
      refine J_ck (fun hc1 => ?_)
      refine J_ild (pc := 18) (t := 11) (k := (tn x2)) o0 iT_11 (inb_in hc1) rfl dX7_copyRow_18 ?_
      refine J_ck (fun hc2 => ?_)
      refine J_ist (pc := 19) (t := 11) (k := (tn x2)) (ok_c hn 4 (by decide) rfl) iT_11 (inb_in hc2) rfl dX7_copyRow_19 ?_
      refine J_iinc (pc := 20) (d := (1 : Int32)) (ls' := [some (.ref a0), some (.ref 4), some (.int (x2 + (1 : Int32)))]) dX7_copyRow_20 (by decide) rfl (Nat.le_of_ble_eq_true rfl) rfl rfl ?_
      refine J_goto (pc := 23) (tgt := 2) dX7_copyRow_23 (by decide) ?_
      exact hR a0 (x2 + (1 : Int32)) o0 (stm I 4 (tn x2) (I a0 (tn x2)))
theorem tl_X7_copyRow_v11_4_2 {G : Gt} (hG : Gok G) (hn : Gn G) {K26 : Mem → Option Mem} (hK26 : ∀ (I : Mem), J G (mu_X7_copyRow_v11_4 G) 26 [none, none, none] [] I (K26 I)) (n : Nat) : ∀ (a0 : Nat) (x2 : Int32) (o0 : ok G a0 11) (I : Mem), J G (mu_X7_copyRow_v11_4 G) 2 [some (.ref a0), some (.ref 4), some (.int x2)] [] I (l_X7_copyRow_v11_4_2 K26 n a0 x2 I) := by
  induction n with
  | zero => intro a0 x2 o0 I; exact J_none
  | succ n ih => intro a0 x2 o0 I; exact tb_X7_copyRow_v11_4_2 hG hn hK26 ih a0 x2 o0 I
set_option maxRecDepth 100000 in
theorem c_X7_copyRow_v11_4 {G : Gt} (hG : Gok G) (hn : Gn G) (a0 : Nat) (o0 : ok G a0 11) (I : Mem) : Ctv G yX7_copyRow cX7_copyRow 3 0 0 [.ref a0, .ref 4] I (f_X7_copyRow_v11_4 a0 I) := by
  refine Ctv.of (ls := [some (.ref a0), some (.ref 4), none]) 1 hG (by decide) rfl (Nat.le_of_ble_eq_true rfl) ?_
  unfold f_X7_copyRow_v11_4
  refine J_iconst (pc := 0) (v := (0 : Int32)) dX7_copyRow_0 (by decide) ?_
  refine J_istore_n (pc := 1) (ls' := [some (.ref a0), some (.ref 4), some (.int (0 : Int32))]) dX7_copyRow_1 (Nat.le_of_ble_eq_true rfl) rfl rfl ?_
  refine tl_X7_copyRow_v11_4_2 hG hn (fun I3 => ?_) fuel a0 (0 : Int32) o0 I
  · exact J_vret (pc := 26) dX7_copyRow_26
abbrev mu_X7_copyRow_v12_5 (G : Gt) : Mt Mem := mv G cX7_copyRow 3 yX7_copyRow.cls 0 0
def b_X7_copyRow_v12_5_2 (K26 : Mem → Option Mem) (R : Nat → Int32 → Mem → Option Mem) (a0 : Nat) (x2 : Int32) (I : Mem) : Option Mem :=
  (if (4 : Int32) ≤ x2 then K26 I else (if (4 : Int32) ≤ x2 then K26 I else ck (inb x2 4) <| ck (inb x2 4) <| R a0 (x2 + (1 : Int32)) (stm I 5 (tn x2) (I a0 (tn x2)))))
def l_X7_copyRow_v12_5_2 (K26 : Mem → Option Mem) : Nat → Nat → Int32 → Mem → Option Mem := fx (b_X7_copyRow_v12_5_2 K26) (fun _ _ _ => none)
def f_X7_copyRow_v12_5 (a0 : Nat) (I : Mem) : Option Mem :=
  l_X7_copyRow_v12_5_2 (fun I3 => some I3) fuel a0 (0 : Int32) I
set_option maxRecDepth 100000 in
theorem tb_X7_copyRow_v12_5_2 {G : Gt} (hG : Gok G) (hn : Gn G) {K26 : Mem → Option Mem} (hK26 : ∀ (I : Mem), J G (mu_X7_copyRow_v12_5 G) 26 [none, none, none] [] I (K26 I)) {R : Nat → Int32 → Mem → Option Mem} (hR : ∀ (a0 : Nat) (x2 : Int32) (o0 : ok G a0 12) (I : Mem), J G (mu_X7_copyRow_v12_5 G) 2 [some (.ref a0), some (.ref 5), some (.int x2)] [] I (R a0 x2 I)) (a0 : Nat) (x2 : Int32) (o0 : ok G a0 12) (I : Mem) : J G (mu_X7_copyRow_v12_5 G) 2 [some (.ref a0), some (.ref 5), some (.int x2)] [] I (b_X7_copyRow_v12_5_2 K26 R a0 x2 I) := by
  unfold b_X7_copyRow_v12_5_2
  refine J_iload_n (pc := 2) (x := x2) dX7_copyRow_2 rfl ?_
  refine J_aload_n (pc := 3) (x := a0) dX7_copyRow_3 rfl ?_
  refine J_aln (pc := 4) (t := 12) (v := (4 : Int32)) o0 iT_12 (by decide) dX7_copyRow_4 ?_
  refine J_icmp_ge (pc := 5) (tgt := 26) dX7_copyRow_5 (by decide) ?_ ?_
  · refine J_weak (ls' := [none, none, none]) trivial ?_
    exact hK26 I
  · refine J_iload_n (pc := 8) (x := x2) dX7_copyRow_8 rfl ?_
    refine J_aload_n (pc := 9) (x := 5) dX7_copyRow_9 rfl ?_
    refine J_aln (pc := 10) (t := 12) (v := (4 : Int32)) (ok_c hn 5 (by decide) rfl) iT_12 (by decide) dX7_copyRow_10 ?_
    refine J_icmp_ge (pc := 11) (tgt := 26) dX7_copyRow_11 (by decide) ?_ ?_
    · refine J_weak (ls' := [none, none, none]) trivial ?_
      exact hK26 I
    · refine J_aload_n (pc := 14) (x := 5) dX7_copyRow_14 rfl ?_
      refine J_iload_n (pc := 15) (x := x2) dX7_copyRow_15 rfl ?_
      refine J_aload_n (pc := 16) (x := a0) dX7_copyRow_16 rfl ?_
      refine J_iload_n (pc := 17) (x := x2) dX7_copyRow_17 rfl ?_
      refine J_ck (fun hc1 => ?_)
      refine J_ild (pc := 18) (t := 12) (k := (tn x2)) o0 iT_12 (inb_in hc1) rfl dX7_copyRow_18 ?_
      refine J_ck (fun hc2 => ?_)
      refine J_ist (pc := 19) (t := 12) (k := (tn x2)) (ok_c hn 5 (by decide) rfl) iT_12 (inb_in hc2) rfl dX7_copyRow_19 ?_
      refine J_iinc (pc := 20) (d := (1 : Int32)) (ls' := [some (.ref a0), some (.ref 5), some (.int (x2 + (1 : Int32)))]) dX7_copyRow_20 (by decide) rfl (Nat.le_of_ble_eq_true rfl) rfl rfl ?_
      refine J_goto (pc := 23) (tgt := 2) dX7_copyRow_23 (by decide) ?_
      exact hR a0 (x2 + (1 : Int32)) o0 (stm I 5 (tn x2) (I a0 (tn x2)))
theorem tl_X7_copyRow_v12_5_2 {G : Gt} (hG : Gok G) (hn : Gn G) {K26 : Mem → Option Mem} (hK26 : ∀ (I : Mem), J G (mu_X7_copyRow_v12_5 G) 26 [none, none, none] [] I (K26 I)) (n : Nat) : ∀ (a0 : Nat) (x2 : Int32) (o0 : ok G a0 12) (I : Mem), J G (mu_X7_copyRow_v12_5 G) 2 [some (.ref a0), some (.ref 5), some (.int x2)] [] I (l_X7_copyRow_v12_5_2 K26 n a0 x2 I) := by
  induction n with
  | zero => intro a0 x2 o0 I; exact J_none
  | succ n ih => intro a0 x2 o0 I; exact tb_X7_copyRow_v12_5_2 hG hn hK26 ih a0 x2 o0 I
set_option maxRecDepth 100000 in
theorem c_X7_copyRow_v12_5 {G : Gt} (hG : Gok G) (hn : Gn G) (a0 : Nat) (o0 : ok G a0 12) (I : Mem) : Ctv G yX7_copyRow cX7_copyRow 3 0 0 [.ref a0, .ref 5] I (f_X7_copyRow_v12_5 a0 I) := by
  refine Ctv.of (ls := [some (.ref a0), some (.ref 5), none]) 1 hG (by decide) rfl (Nat.le_of_ble_eq_true rfl) ?_
  unfold f_X7_copyRow_v12_5
  refine J_iconst (pc := 0) (v := (0 : Int32)) dX7_copyRow_0 (by decide) ?_
  refine J_istore_n (pc := 1) (ls' := [some (.ref a0), some (.ref 5), some (.int (0 : Int32))]) dX7_copyRow_1 (Nat.le_of_ble_eq_true rfl) rfl rfl ?_
  refine tl_X7_copyRow_v12_5_2 hG hn (fun I3 => ?_) fuel a0 (0 : Int32) o0 I
  · exact J_vret (pc := 26) dX7_copyRow_26
