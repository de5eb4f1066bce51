abbrev mu_X9_at (G : Gt) : Mt (Int32 × Mem) := mi G cX9_at 2 yX9_at.cls (some .int) 0 0
def f_X9_at (x0 : Int32) (x1 : Int32) (I : Mem) : Option (Int32 × Mem) :=
  some ((((440 : Int32) * x0) + x1), I)
set_option maxRecDepth 100000 in
theorem c_X9_at {G : Gt} (hG : Gok G) (hn : gn G = 104) (x0 : Int32) (x1 : Int32) (I : Mem) : Cti G yX9_at cX9_at 2 (some .int) 0 0 [.int x0, .int x1] I (f_X9_at x0 x1 I) := by
  refine Cti.of (ls := [some (.int x0), some (.int x1)]) 0 hG (by decide) rfl (Nat.le_of_ble_eq_true rfl) ?_
  unfold f_X9_at
  refine J_sipush (pc := 0) (v := (440 : Int32)) dX9_at_0 (by decide) ?_
  refine J_iload_n (pc := 3) (x := x0) dX9_at_3 rfl ?_
  refine J_imul (pc := 4) dX9_at_4 ?_
  refine J_iload_n (pc := 5) (x := x1) dX9_at_5 rfl ?_
  refine J_iadd (pc := 6) dX9_at_6 ?_
  exact J_iret (pc := 7) dX9_at_7
abbrev mu_X9_pagesOf (G : Gt) : Mt (Int32 × Mem) := mi G cX9_pagesOf 2 yX9_pagesOf.cls (some .int) 0 0
def f_X9_pagesOf (x1 : Int32) (I : Mem) : Option (Int32 × Mem) :=
  ck (inb ((8 : Int32) + ((5 : Int32) * x1)) 132) <| some (((2 : Int32) <<< ((I 91 (tn ((8 : Int32) + ((5 : Int32) * x1)))) &&& 31)), I)
set_option maxRecDepth 100000 in
theorem c_X9_pagesOf {G : Gt} (hG : Gok G) (hn : gn G = 104) (x1 : Int32) (I : Mem) : Cti G yX9_pagesOf cX9_pagesOf 2 (some .int) 0 0 [.ref 89, .int x1] I (f_X9_pagesOf x1 I) := by
  refine Cti.of (ls := [some (.ref 89), some (.int x1)]) 0 hG (by decide) rfl (Nat.le_of_ble_eq_true rfl) ?_
  unfold f_X9_pagesOf
  refine J_iconst (pc := 0) (v := (2 : Int32)) dX9_pagesOf_0 (by decide) ?_
  refine J_aload_n (pc := 1) (x := 89) dX9_pagesOf_1 rfl ?_
  refine J_get (pc := 2) (t := 9) (k := 2) (.ref 91) (ok_m hn 89 (by decide) rfl) (by decide) rfl ingX9 (by decide) wd_467 rfl dX9_pagesOf_2 ?_
  refine J_bipush (pc := 5) (v := (8 : Int32)) dX9_pagesOf_5 (by decide) ?_
  refine J_iconst (pc := 7) (v := (5 : Int32)) dX9_pagesOf_7 (by decide) ?_
  refine J_iload_n (pc := 8) (x := x1) dX9_pagesOf_8 rfl ?_
  refine J_imul (pc := 9) dX9_pagesOf_9 ?_
  refine J_iadd (pc := 10) dX9_pagesOf_10 ?_
  refine J_ck (fun hc1 => ?_)
  refine J_ild (pc := 11) (t := 31) (k := (tn ((8 : Int32) + ((5 : Int32) * x1)))) (ok_m hn 91 (by decide) rfl) iT_31 (inb_in hc1) rfl dX9_pagesOf_11 ?_
  refine J_ishl (pc := 12) dX9_pagesOf_12 ?_
  exact J_iret (pc := 13) dX9_pagesOf_13
abbrev mu_X9_findPlan (G : Gt) : Mt Mem := mv G cX9_findPlan 7 yX9_findPlan.cls 1 21
def b_X9_findPlan_9 (K42 : Int32 → Int32 → Mem → Option Mem) (R : Int32 → Int32 → Int32 → Mem → Option Mem) (x1 : Int32) (x2 : Int32) (x3 : Int32) (I : Mem) : Option Mem :=
  (if (440 : Int32) ≤ x3 then K42 x1 x2 I else bI (f_X9_at x2 x3 I) fun r2 I1 => (if x3 = 0 then ck (inb r2 2200) <| R x1 x2 (x3 + (1 : Int32)) (stm I1 101 (tn r2) (0 : Int32)) else ck (inb r2 2200) <| R x1 x2 (x3 + (1 : Int32)) (stm I1 101 (tn r2) (1000000 : Int32))))
def l_X9_findPlan_9 (K42 : Int32 → Int32 → Mem → Option Mem) : Nat → Int32 → Int32 → Int32 → Mem → Option Mem := fx (b_X9_findPlan_9 K42) (fun _ _ _ _ => none)
def j_X9_findPlan_102 (R : Int32 → Int32 → Int32 → Int32 → Mem → Option Mem) (x1 : Int32) (x2 : Int32) (x3 : Int32) (x4 : Int32) (y0 : Int32) (I : Mem) : Option Mem :=
  bI (f_X9_at (x3 + (1 : Int32)) x4 I) fun r11 I10 => ck (inb r11 2200) <| bI (f_X9_at x3 x4 I10) fun r14 I13 => (if (I10 101 (tn r11)) ≤ y0 then ck (inb r14 2200) <| R x1 x2 x3 (x4 + (1 : Int32)) (stm I13 101 (tn r14) (I10 101 (tn r11))) else ck (inb r14 2200) <| R x1 x2 x3 (x4 + (1 : Int32)) (stm I13 101 (tn r14) y0))
def b_X9_findPlan_53 (K150 : Int32 → Int32 → Int32 → Mem → Option Mem) (R : Int32 → Int32 → Int32 → Int32 → Mem → Option Mem) (x1 : Int32) (x2 : Int32) (x3 : Int32) (x4 : Int32) (I : Mem) : Option Mem :=
  (if (440 : Int32) ≤ x4 then K150 x1 x2 x3 I else bI (f_X9_pagesOf x3 I) fun r9 I8 => (if x4 < r9 then j_X9_findPlan_102 R x1 x2 x3 x4 (1000000 : Int32) I8 else bI (f_X9_pagesOf x3 I8) fun r18 I17 => bI (f_X9_at x3 (x4 - r18) I17) fun r20 I19 => ck (inb r20 2200) <| ck (inb ((4 : Int32) + x3) 132) <| j_X9_findPlan_102 R x1 x2 x3 x4 ((I19 101 (tn r20)) + (I19 91 (tn ((4 : Int32) + x3)))) I19))
def l_X9_findPlan_53 (K150 : Int32 → Int32 → Int32 → Mem → Option Mem) : Nat → Int32 → Int32 → Int32 → Int32 → Mem → Option Mem := fx (b_X9_findPlan_53 K150) (fun _ _ _ _ _ => none)
def b_X9_findPlan_46 (K156 : Int32 → Int32 → Mem → Option Mem) (R : Int32 → Int32 → Int32 → Mem → Option Mem) (x1 : Int32) (x2 : Int32) (x3 : Int32) (I : Mem) : Option Mem :=
  (if x3 < 0 then K156 x1 x2 I else l_X9_findPlan_53 (fun (z23 : Int32) (z24 : Int32) (z25 : Int32) I26 => R z23 z24 (z25 + (-1 : Int32)) I26) fuel x1 x2 x3 (0 : Int32) I)
def l_X9_findPlan_46 (K156 : Int32 → Int32 → Mem → Option Mem) : Nat → Int32 → Int32 → Int32 → Mem → Option Mem := fx (b_X9_findPlan_46 K156) (fun _ _ _ _ => none)
def b_X9_findPlan_161 (K192 : Int32 → Mem → Option Mem) (R : Int32 → Mem → Option Mem) (x2 : Int32) (I : Mem) : Option Mem :=
  bI (f_X9_at (0 : Int32) (I 89 20) I) fun r31 I30 => ck (inb r31 2200) <| (if (I30 101 (tn r31)) < (1000000 : Int32) then K192 x2 I30 else R x2 (stm I30 89 20 ((I30 89 20) + (1 : Int32))))
def l_X9_findPlan_161 (K192 : Int32 → Mem → Option Mem) : Nat → Int32 → Mem → Option Mem := fx (b_X9_findPlan_161 K192) (fun _ _ => none)
def b_X9_findPlan_200 (K220 : Int32 → Int32 → Mem → Option Mem) (R : Int32 → Int32 → Int32 → Mem → Option Mem) (x2 : Int32) (x3 : Int32) (x4 : Int32) (I : Mem) : Option Mem :=
  (if (4 : Int32) ≤ x4 then K220 x2 x3 I else ck (inb x4 4) <| R x2 x3 (x4 + (1 : Int32)) (stm I 102 (tn x4) (0 : Int32)))
def l_X9_findPlan_200 (K220 : Int32 → Int32 → Mem → Option Mem) : Nat → Int32 → Int32 → Int32 → Mem → Option Mem := fx (b_X9_findPlan_200 K220) (fun _ _ _ _ => none)
def b_X9_findPlan_239 (K295 : Int32 → Int32 → Int32 → Int32 → Mem → Option Mem) (R : Int32 → Int32 → Int32 → Int32 → Mem → Option Mem) (x2 : Int32) (x3 : Int32) (x4 : Int32) (x5 : Int32) (I : Mem) : Option Mem :=
  bI (f_X9_pagesOf x4 I) fun r43 I42 => bI (f_X9_at (x4 + (1 : Int32)) (x3 - (x5 * r43)) I42) fun r45 I44 => ck (inb r45 2200) <| ck (inb ((4 : Int32) + x4) 132) <| bI (f_X9_at x4 x3 I44) fun r49 I48 => ck (inb r49 2200) <| (if ((I44 101 (tn r45)) + (x5 * (I44 91 (tn ((4 : Int32) + x4))))) = (I48 101 (tn r49)) then K295 x2 x3 x4 x5 I48 else R x2 x3 x4 (x5 + (-1 : Int32)) I48)
def l_X9_findPlan_239 (K295 : Int32 → Int32 → Int32 → Int32 → Mem → Option Mem) : Nat → Int32 → Int32 → Int32 → Int32 → Mem → Option Mem := fx (b_X9_findPlan_239 K295) (fun _ _ _ _ _ => none)
def b_X9_findPlan_223 (K322 : Mem → Option Mem) (R : Int32 → Int32 → Int32 → Mem → Option Mem) (x2 : Int32) (x3 : Int32) (x4 : Int32) (I : Mem) : Option Mem :=
  (if x2 ≤ x4 then K322 I else bI (f_X9_pagesOf x4 I) fun r40 I39 => ck (!(r40 == 0)) <| l_X9_findPlan_239 (fun (z51 : Int32) (z52 : Int32) (z53 : Int32) (z54 : Int32) I55 => ck (inb z53 4) <| bI (f_X9_pagesOf z53 (stm I55 102 (tn z53) z54)) fun r58 I57 => R z51 (z52 - (z54 * r58)) (z53 + (1 : Int32)) I57) fuel x2 x3 x4 (x3 / r40) I39)
def l_X9_findPlan_223 (K322 : Mem → Option Mem) : Nat → Int32 → Int32 → Int32 → Mem → Option Mem := fx (b_X9_findPlan_223 K322) (fun _ _ _ _ => none)
def f_X9_findPlan (x1 : Int32) (I : Mem) : Option Mem :=
  l_X9_findPlan_9 (fun (z5 : Int32) (z6 : Int32) I7 => l_X9_findPlan_46 (fun (z27 : Int32) (z28 : Int32) I29 => l_X9_findPlan_161 (fun (z33 : Int32) I34 => l_X9_findPlan_200 (fun (z36 : Int32) (z37 : Int32) I38 => l_X9_findPlan_223 (fun I59 => some I59) fuel z36 z37 (0 : Int32) I38) fuel z33 (I34 89 20) (0 : Int32) I34) fuel z28 (stm I29 89 20 z27)) fuel z5 z6 (z6 - (1 : Int32)) I7) fuel x1 (I 91 3) (0 : Int32) I
set_option maxRecDepth 100000 in
theorem tb_X9_findPlan_9 {G : Gt} (hG : Gok G) (hn : gn G = 104) {K42 : Int32 → Int32 → Mem → Option Mem} (hK42 : ∀ (x1 : Int32) (x2 : Int32) (I : Mem), J G (mu_X9_findPlan G) 42 [some (.ref 89), some (.int x1), some (.int x2), none, none, none, none] [] I (K42 x1 x2 I)) {R : Int32 → Int32 → Int32 → Mem → Option Mem} (hR : ∀ (x1 : Int32) (x2 : Int32) (x3 : Int32) (I : Mem), J G (mu_X9_findPlan G) 9 [some (.ref 89), some (.int x1), some (.int x2), some (.int x3), none, none, none] [] I (R x1 x2 x3 I)) (x1 : Int32) (x2 : Int32) (x3 : Int32) (I : Mem) : J G (mu_X9_findPlan G) 9 [some (.ref 89), some (.int x1), some (.int x2), some (.int x3), none, none, none] [] I (b_X9_findPlan_9 K42 R x1 x2 x3 I) := by
  unfold b_X9_findPlan_9
  refine J_iload_n (pc := 9) (x := x3) dX9_findPlan_9 rfl ?_
  refine J_sipush (pc := 10) (v := (440 : Int32)) dX9_findPlan_10 (by decide) ?_
  refine J_icmp_ge (pc := 13) (tgt := 42) dX9_findPlan_13 (by decide) ?_ ?_
  · refine J_weak (ls' := [some (.ref 89), some (.int x1), some (.int x2), none, none, none, none]) ⟨rfl, rfl, rfl, trivial⟩ ?_
    exact hK42 x1 x2 I
  · refine J_aload_n (pc := 16) (x := 89) dX9_findPlan_16 rfl ?_
    refine J_get (pc := 17) (t := 9) (k := 18) (.ref 101) (ok_m hn 89 (by decide) rfl) (by decide) rfl ingX9 (by decide) wd_489 rfl dX9_findPlan_17 ?_
    refine J_iload_n (pc := 20) (x := x2) dX9_findPlan_20 rfl ?_
    refine J_iload_n (pc := 21) (x := x3) dX9_findPlan_21 rfl ?_
    refine J_callSi (pc := 22) (as := [.int x2, .int x3]) (st := [.ref 101]) (c_X9_at hG hn x2 x3 I) (cw_RX9_181 rfl) wd_490 rfl ⟨Nat.le_of_ble_eq_true rfl, Nat.le_of_ble_eq_true rfl, Nat.le_of_ble_eq_true rfl, Nat.le_of_ble_eq_true rfl⟩ (Nat.le_of_ble_eq_true rfl) rfl dX9_findPlan_22 (fun r2 I1 => ?_)
    refine J_iload_n (pc := 25) (x := x3) dX9_findPlan_25 rfl ?_
    refine J_if_ne (pc := 26) (tgt := 33) dX9_findPlan_26 (by decide) ?_ ?_
    · refine J_iconst (pc := 29) (v := (0 : Int32)) dX9_findPlan_29 (by decide) ?_
      refine J_goto (pc := 30) (tgt := 35) dX9_findPlan_30 (by decide) ?_
      refine J_ck (fun hc3 => ?_)
      refine J_ist (pc := 35) (t := 41) (k := (tn r2)) (ok_m hn 101 (by decide) rfl) iT_41 (inb_in hc3) rfl dX9_findPlan_35 ?_
      refine J_iinc (pc := 36) (d := (1 : Int32)) (ls' := [some (.ref 89), some (.int x1), some (.int x2), some (.int (x3 + (1 : Int32))), none, none, none]) dX9_findPlan_36 (by decide) rfl (Nat.le_of_ble_eq_true rfl) rfl rfl ?_
      refine J_goto (pc := 39) (tgt := 9) dX9_findPlan_39 (by decide) ?_
      exact hR x1 x2 (x3 + (1 : Int32)) (stm I1 101 (tn r2) (0 : Int32))
    · refine J_ldc (pc := 33) (v := (1000000 : Int32)) wd_493 dX9_findPlan_33 ?_
      refine J_ck (fun hc4 => ?_)
      refine J_ist (pc := 35) (t := 41) (k := (tn r2)) (ok_m hn 101 (by decide) rfl) iT_41 (inb_in hc4) rfl dX9_findPlan_35 ?_
      refine J_iinc (pc := 36) (d := (1 : Int32)) (ls' := [some (.ref 89), some (.int x1), some (.int x2), some (.int (x3 + (1 : Int32))), none, none, none]) dX9_findPlan_36 (by decide) rfl (Nat.le_of_ble_eq_true rfl) rfl rfl ?_
      refine J_goto (pc := 39) (tgt := 9) dX9_findPlan_39 (by decide) ?_
      exact hR x1 x2 (x3 + (1 : Int32)) (stm I1 101 (tn r2) (1000000 : Int32))
theorem tl_X9_findPlan_9 {G : Gt} (hG : Gok G) (hn : gn G = 104) {K42 : Int32 → Int32 → Mem → Option Mem} (hK42 : ∀ (x1 : Int32) (x2 : Int32) (I : Mem), J G (mu_X9_findPlan G) 42 [some (.ref 89), some (.int x1), some (.int x2), none, none, none, none] [] I (K42 x1 x2 I)) (n : Nat) : ∀ (x1 : Int32) (x2 : Int32) (x3 : Int32) (I : Mem), J G (mu_X9_findPlan G) 9 [some (.ref 89), some (.int x1), some (.int x2), some (.int x3), none, none, none] [] I (l_X9_findPlan_9 K42 n x1 x2 x3 I) := by
  induction n with
  | zero => intro x1 x2 x3 I; exact J_none
  | succ n ih => intro x1 x2 x3 I; exact tb_X9_findPlan_9 hG hn hK42 ih x1 x2 x3 I
set_option maxRecDepth 100000 in
theorem tj_X9_findPlan_102 {G : Gt} (hG : Gok G) (hn : gn G = 104) {R : Int32 → Int32 → Int32 → Int32 → Mem → Option Mem} (hR : ∀ (x1 : Int32) (x2 : Int32) (x3 : Int32) (x4 : Int32) (I : Mem), J G (mu_X9_findPlan G) 53 [some (.ref 89), some (.int x1), some (.int x2), some (.int x3), some (.int x4), none, none] [] I (R x1 x2 x3 x4 I)) (x1 : Int32) (x2 : Int32) (x3 : Int32) (x4 : Int32) (y0 : Int32) (I : Mem) : J G (mu_X9_findPlan G) 102 [some (.ref 89), some (.int x1), some (.int x2), some (.int x3), some (.int x4), none, none] [.int y0] I (j_X9_findPlan_102 R x1 x2 x3 x4 y0 I) := by
  unfold j_X9_findPlan_102
  refine J_istore (pc := 102) (ls' := [some (.ref 89), some (.int x1), some (.int x2), some (.int x3), some (.int x4), some (.int y0), none]) dX9_findPlan_102 (Nat.le_of_ble_eq_true rfl) rfl rfl ?_
  refine J_aload_n (pc := 104) (x := 89) dX9_findPlan_104 rfl ?_
  refine J_get (pc := 105) (t := 9) (k := 18) (.ref 101) (ok_m hn 89 (by decide) rfl) (by decide) rfl ingX9 (by decide) wd_489 rfl dX9_findPlan_105 ?_
  refine J_iload_n (pc := 108) (x := x3) dX9_findPlan_108 rfl ?_
  refine J_iconst (pc := 109) (v := (1 : Int32)) dX9_findPlan_109 (by decide) ?_
  refine J_iadd (pc := 110) dX9_findPlan_110 ?_
  refine J_iload (pc := 111) (x := x4) dX9_findPlan_111 rfl ?_
  refine J_callSi (pc := 113) (as := [.int (x3 + (1 : Int32)), .int x4]) (st := [.ref 101]) (c_X9_at hG hn (x3 + (1 : Int32)) x4 I) (cw_RX9_181 rfl) wd_490 rfl ⟨Nat.le_of_ble_eq_true rfl, Nat.le_of_ble_eq_true rfl, Nat.le_of_ble_eq_true rfl, Nat.le_of_ble_eq_true rfl⟩ (Nat.le_of_ble_eq_true rfl) rfl dX9_findPlan_113 (fun r11 I10 => ?_)
  refine J_ck (fun hc12 => ?_)
  refine J_ild (pc := 116) (t := 41) (k := (tn r11)) (ok_m hn 101 (by decide) rfl) iT_41 (inb_in hc12) rfl dX9_findPlan_116 ?_
  refine J_istore (pc := 117) (ls' := [some (.ref 89), some (.int x1), some (.int x2), some (.int x3), some (.int x4), some (.int y0), some (.int (I10 101 (tn r11)))]) dX9_findPlan_117 (Nat.le_of_ble_eq_true rfl) rfl rfl ?_
  refine J_aload_n (pc := 119) (x := 89) dX9_findPlan_119 rfl ?_
  refine J_get (pc := 120) (t := 9) (k := 18) (.ref 101) (ok_m hn 89 (by decide) rfl) (by decide) rfl ingX9 (by decide) wd_489 rfl dX9_findPlan_120 ?_
  refine J_iload_n (pc := 123) (x := x3) dX9_findPlan_123 rfl ?_
  refine J_iload (pc := 124) (x := x4) dX9_findPlan_124 rfl ?_
  refine J_callSi (pc := 126) (as := [.int x3, .int x4]) (st := [.ref 101]) (c_X9_at hG hn x3 x4 I10) (cw_RX9_181 rfl) wd_490 rfl ⟨Nat.le_of_ble_eq_true rfl, Nat.le_of_ble_eq_true rfl, Nat.le_of_ble_eq_true rfl, Nat.le_of_ble_eq_true rfl⟩ (Nat.le_of_ble_eq_true rfl) rfl dX9_findPlan_126 (fun r14 I13 => ?_)
  refine J_iload (pc := 129) (x := y0) dX9_findPlan_129 rfl ?_
  refine J_iload (pc := 131) (x := (I10 101 (tn r11))) dX9_findPlan_131 rfl ?_
  refine J_icmp_ge (pc := 133) (tgt := 141) dX9_findPlan_133 (by decide) ?_ ?_
  · refine J_iload (pc := 141) (x := (I10 101 (tn r11))) dX9_findPlan_141 rfl ?_
    refine J_ck (fun hc15 => ?_)
    refine J_ist (pc := 143) (t := 41) (k := (tn r14)) (ok_m hn 101 (by decide) rfl) iT_41 (inb_in hc15) rfl dX9_findPlan_143 ?_
    refine J_iinc (pc := 144) (d := (1 : Int32)) (ls' := [some (.ref 89), some (.int x1), some (.int x2), some (.int x3), some (.int (x4 + (1 : Int32))), some (.int y0), some (.int (I10 101 (tn r11)))]) dX9_findPlan_144 (by decide) rfl (Nat.le_of_ble_eq_true rfl) rfl rfl ?_
    refine J_goto (pc := 147) (tgt := 53) dX9_findPlan_147 (by decide) ?_
    refine J_weak (ls' := [some (.ref 89), some (.int x1), some (.int x2), some (.int x3), some (.int (x4 + (1 : Int32))), none, none]) ⟨rfl, rfl, rfl, rfl, rfl, trivial⟩ ?_
    exact hR x1 x2 x3 (x4 + (1 : Int32)) (stm I13 101 (tn r14) (I10 101 (tn r11)))
  · refine J_iload (pc := 136) (x := y0) dX9_findPlan_136 rfl ?_
    refine J_goto (pc := 138) (tgt := 143) dX9_findPlan_138 (by decide) ?_
    refine J_ck (fun hc16 => ?_)
    refine J_ist (pc := 143) (t := 41) (k := (tn r14)) (ok_m hn 101 (by decide) rfl) iT_41 (inb_in hc16) rfl dX9_findPlan_143 ?_
    refine J_iinc (pc := 144) (d := (1 : Int32)) (ls' := [some (.ref 89), some (.int x1), some (.int x2), some (.int x3), some (.int (x4 + (1 : Int32))), some (.int y0), some (.int (I10 101 (tn r11)))]) dX9_findPlan_144 (by decide) rfl (Nat.le_of_ble_eq_true rfl) rfl rfl ?_
    refine J_goto (pc := 147) (tgt := 53) dX9_findPlan_147 (by decide) ?_
    refine J_weak (ls' := [some (.ref 89), some (.int x1), some (.int x2), some (.int x3), some (.int (x4 + (1 : Int32))), none, none]) ⟨rfl, rfl, rfl, rfl, rfl, trivial⟩ ?_
    exact hR x1 x2 x3 (x4 + (1 : Int32)) (stm I13 101 (tn r14) y0)
set_option maxRecDepth 100000 in
theorem tb_X9_findPlan_53 {G : Gt} (hG : Gok G) (hn : gn G = 104) {K150 : Int32 → Int32 → Int32 → Mem → Option Mem} (hK150 : ∀ (x1 : Int32) (x2 : Int32) (x3 : Int32) (I : Mem), J G (mu_X9_findPlan G) 150 [some (.ref 89), some (.int x1), some (.int x2), some (.int x3), none, none, none] [] I (K150 x1 x2 x3 I)) {R : Int32 → Int32 → Int32 → Int32 → Mem → Option Mem} (hR : ∀ (x1 : Int32) (x2 : Int32) (x3 : Int32) (x4 : Int32) (I : Mem), J G (mu_X9_findPlan G) 53 [some (.ref 89), some (.int x1), some (.int x2), some (.int x3), some (.int x4), none, none] [] I (R x1 x2 x3 x4 I)) (x1 : Int32) (x2 : Int32) (x3 : Int32) (x4 : Int32) (I : Mem) : J G (mu_X9_findPlan G) 53 [some (.ref 89), some (.int x1), some (.int x2), some (.int x3), some (.int x4), none, none] [] I (b_X9_findPlan_53 K150 R x1 x2 x3 x4 I) := by
  unfold b_X9_findPlan_53
  refine J_iload (pc := 53) (x := x4) dX9_findPlan_53 rfl ?_
  refine J_sipush (pc := 55) (v := (440 : Int32)) dX9_findPlan_55 (by decide) ?_
  refine J_icmp_ge (pc := 58) (tgt := 150) dX9_findPlan_58 (by decide) ?_ ?_
  · refine J_weak (ls' := [some (.ref 89), some (.int x1), some (.int x2), some (.int x3), none, none, none]) ⟨rfl, rfl, rfl, rfl, trivial⟩ ?_
    exact hK150 x1 x2 x3 I
  · refine J_iload (pc := 61) (x := x4) dX9_findPlan_61 rfl ?_
    refine J_aload_n (pc := 63) (x := 89) dX9_findPlan_63 rfl ?_
    refine J_iload_n (pc := 64) (x := x3) dX9_findPlan_64 rfl ?_
    refine J_callVi (pc := 65) (t := 9) (as := [.int x3]) (st := [.int x4]) (c_X9_pagesOf hG hn x3 I) (ok_m hn 89 (by decide) rfl) (by decide) rfl (cw_RX9_151 rfl) wd_495 wd_494 rfl ⟨Nat.le_of_ble_eq_true rfl, Nat.le_of_ble_eq_true rfl, Nat.le_of_ble_eq_true rfl, Nat.le_of_ble_eq_true rfl⟩ (Nat.le_of_ble_eq_true rfl) rfl dX9_findPlan_65 (fun r9 I8 => ?_)
    refine J_icmp_lt (pc := 68) (tgt := 100) dX9_findPlan_68 (by decide) ?_ ?_
    · refine J_ldc (pc := 100) (v := (1000000 : Int32)) wd_493 dX9_findPlan_100 ?_
      exact tj_X9_findPlan_102 hG hn hR x1 x2 x3 x4 (1000000 : Int32) I8
    · refine J_aload_n (pc := 71) (x := 89) dX9_findPlan_71 rfl ?_
      refine J_get (pc := 72) (t := 9) (k := 18) (.ref 101) (ok_m hn 89 (by decide) rfl) (by decide) rfl ingX9 (by decide) wd_489 rfl dX9_findPlan_72 ?_
      refine J_iload_n (pc := 75) (x := x3) dX9_findPlan_75 rfl ?_
      refine J_iload (pc := 76) (x := x4) dX9_findPlan_76 rfl ?_
      refine J_aload_n (pc := 78) (x := 89) dX9_findPlan_78 rfl ?_
      refine J_iload_n (pc := 79) (x := x3) dX9_findPlan_79 rfl ?_
      refine J_callVi (pc := 80) (t := 9) (as := [.int x3]) (st := [.int x4, .int x3, .ref 101]) (c_X9_pagesOf hG hn x3 I8) (ok_m hn 89 (by decide) rfl) (by decide) rfl (cw_RX9_151 rfl) wd_495 wd_494 rfl ⟨Nat.le_of_ble_eq_true rfl, Nat.le_of_ble_eq_true rfl, Nat.le_of_ble_eq_true rfl, Nat.le_of_ble_eq_true rfl⟩ (Nat.le_of_ble_eq_true rfl) rfl dX9_findPlan_80 (fun r18 I17 => ?_)
      refine J_isub (pc := 83) dX9_findPlan_83 ?_
      refine J_callSi (pc := 84) (as := [.int x3, .int (x4 - r18)]) (st := [.ref 101]) (c_X9_at hG hn x3 (x4 - r18) I17) (cw_RX9_181 rfl) wd_490 rfl ⟨Nat.le_of_ble_eq_true rfl, Nat.le_of_ble_eq_true rfl, Nat.le_of_ble_eq_true rfl, Nat.le_of_ble_eq_true rfl⟩ (Nat.le_of_ble_eq_true rfl) rfl dX9_findPlan_84 (fun r20 I19 => ?_)
      refine J_ck (fun hc21 => ?_)
      refine J_ild (pc := 87) (t := 41) (k := (tn r20)) (ok_m hn 101 (by decide) rfl) iT_41 (inb_in hc21) rfl dX9_findPlan_87 ?_
      refine J_aload_n (pc := 88) (x := 89) dX9_findPlan_88 rfl ?_
      refine J_get (pc := 89) (t := 9) (k := 2) (.ref 91) (ok_m hn 89 (by decide) rfl) (by decide) rfl ingX9 (by decide) wd_467 rfl dX9_findPlan_89 ?_
      refine J_iconst (pc := 92) (v := (4 : Int32)) dX9_findPlan_92 (by decide) ?_
      refine J_iload_n (pc := 93) (x := x3) dX9_findPlan_93 rfl ?_
      refine J_iadd (pc := 94) dX9_findPlan_94 ?_
      refine J_ck (fun hc22 => ?_)
      refine J_ild (pc := 95) (t := 31) (k := (tn ((4 : Int32) + x3))) (ok_m hn 91 (by decide) rfl) iT_31 (inb_in hc22) rfl dX9_findPlan_95 ?_
      refine J_iadd (pc := 96) dX9_findPlan_96 ?_
      refine J_goto (pc := 97) (tgt := 102) dX9_findPlan_97 (by decide) ?_
      exact tj_X9_findPlan_102 hG hn hR x1 x2 x3 x4 ((I19 101 (tn r20)) + (I19 91 (tn ((4 : Int32) + x3)))) I19
theorem tl_X9_findPlan_53 {G : Gt} (hG : Gok G) (hn : gn G = 104) {K150 : Int32 → Int32 → Int32 → Mem → Option Mem} (hK150 : ∀ (x1 : Int32) (x2 : Int32) (x3 : Int32) (I : Mem), J G (mu_X9_findPlan G) 150 [some (.ref 89), some (.int x1), some (.int x2), some (.int x3), none, none, none] [] I (K150 x1 x2 x3 I)) (n : Nat) : ∀ (x1 : Int32) (x2 : Int32) (x3 : Int32) (x4 : Int32) (I : Mem), J G (mu_X9_findPlan G) 53 [some (.ref 89), some (.int x1), some (.int x2), some (.int x3), some (.int x4), none, none] [] I (l_X9_findPlan_53 K150 n x1 x2 x3 x4 I) := by
  induction n with
  | zero => intro x1 x2 x3 x4 I; exact J_none
  | succ n ih => intro x1 x2 x3 x4 I; exact tb_X9_findPlan_53 hG hn hK150 ih x1 x2 x3 x4 I
set_option maxRecDepth 100000 in
theorem tb_X9_findPlan_46 {G : Gt} (hG : Gok G) (hn : gn G = 104) {K156 : Int32 → Int32 → Mem → Option Mem} (hK156 : ∀ (x1 : Int32) (x2 : Int32) (I : Mem), J G (mu_X9_findPlan G) 156 [some (.ref 89), some (.int x1), some (.int x2), none, none, none, none] [] I (K156 x1 x2 I)) {R : Int32 → Int32 → Int32 → Mem → Option Mem} (hR : ∀ (x1 : Int32) (x2 : Int32) (x3 : Int32) (I : Mem), J G (mu_X9_findPlan G) 46 [some (.ref 89), some (.int x1), some (.int x2), some (.int x3), none, none, none] [] I (R x1 x2 x3 I)) (x1 : Int32) (x2 : Int32) (x3 : Int32) (I : Mem) : J G (mu_X9_findPlan G) 46 [some (.ref 89), some (.int x1), some (.int x2), some (.int x3), none, none, none] [] I (b_X9_findPlan_46 K156 R x1 x2 x3 I) := by
  unfold b_X9_findPlan_46
  refine J_iload_n (pc := 46) (x := x3) dX9_findPlan_46 rfl ?_
  refine J_if_lt (pc := 47) (tgt := 156) dX9_findPlan_47 (by decide) ?_ ?_
  · refine J_weak (ls' := [some (.ref 89), some (.int x1), some (.int x2), none, none, none, none]) ⟨rfl, rfl, rfl, trivial⟩ ?_
    exact hK156 x1 x2 I
  · refine J_iconst (pc := 50) (v := (0 : Int32)) dX9_findPlan_50 (by decide) ?_
    refine J_istore (pc := 51) (ls' := [some (.ref 89), some (.int x1), some (.int x2), some (.int x3), some (.int (0 : Int32)), none, none]) dX9_findPlan_51 (Nat.le_of_ble_eq_true rfl) rfl rfl ?_
    refine tl_X9_findPlan_53 hG hn (fun z23 z24 z25 I26 => ?_) fuel x1 x2 x3 (0 : Int32) I
    · refine J_iinc (pc := 150) (d := (-1 : Int32)) (ls' := [some (.ref 89), some (.int z23), some (.int z24), some (.int (z25 + (-1 : Int32))), none, none, none]) dX9_findPlan_150 (by decide) rfl (Nat.le_of_ble_eq_true rfl) rfl rfl ?_
      refine J_goto (pc := 153) (tgt := 46) dX9_findPlan_153 (by decide) ?_
      exact hR z23 z24 (z25 + (-1 : Int32)) I26
theorem tl_X9_findPlan_46 {G : Gt} (hG : Gok G) (hn : gn G = 104) {K156 : Int32 → Int32 → Mem → Option Mem} (hK156 : ∀ (x1 : Int32) (x2 : Int32) (I : Mem), J G (mu_X9_findPlan G) 156 [some (.ref 89), some (.int x1), some (.int x2), none, none, none, none] [] I (K156 x1 x2 I)) (n : Nat) : ∀ (x1 : Int32) (x2 : Int32) (x3 : Int32) (I : Mem), J G (mu_X9_findPlan G) 46 [some (.ref 89), some (.int x1), some (.int x2), some (.int x3), none, none, none] [] I (l_X9_findPlan_46 K156 n x1 x2 x3 I) := by
  induction n with
  | zero => intro x1 x2 x3 I; exact J_none
  | succ n ih => intro x1 x2 x3 I; exact tb_X9_findPlan_46 hG hn hK156 ih x1 x2 x3 I
set_option maxRecDepth 100000 in
theorem tb_X9_findPlan_161 {G : Gt} (hG : Gok G) (hn : gn G = 104) {K192 : Int32 → Mem → Option Mem} (hK192 : ∀ (x2 : Int32) (I : Mem), J G (mu_X9_findPlan G) 192 [some (.ref 89), none, some (.int x2), none, none, none, none] [] I (K192 x2 I)) {R : Int32 → Mem → Option Mem} (hR : ∀ (x2 : Int32) (I : Mem), J G (mu_X9_findPlan G) 161 [some (.ref 89), none, some (.int x2), none, none, none, none] [] I (R x2 I)) (x2 : Int32) (I : Mem) : J G (mu_X9_findPlan G) 161 [some (.ref 89), none, some (.int x2), none, none, none, none] [] I (b_X9_findPlan_161 K192 R x2 I) := by
  unfold b_X9_findPlan_161
  refine J_aload_n (pc := 161) (x := 89) dX9_findPlan_161 rfl ?_
  refine J_get (pc := 162) (t := 9) (k := 18) (.ref 101) (ok_m hn 89 (by decide) rfl) (by decide) rfl ingX9 (by decide) wd_489 rfl dX9_findPlan_162 ?_
  refine J_iconst (pc := 165) (v := (0 : Int32)) dX9_findPlan_165 (by decide) ?_
  refine J_aload_n (pc := 166) (x := 89) dX9_findPlan_166 rfl ?_
  refine J_get (pc := 167) (t := 9) (k := 20) (.int (I 89 20)) (ok_m hn 89 (by decide) rfl) (by decide) rfl ingX9 (by decide) wd_498 rfl dX9_findPlan_167 ?_
  refine J_callSi (pc := 170) (as := [.int (0 : Int32), .int (I 89 20)]) (st := [.ref 101]) (c_X9_at hG hn (0 : Int32) (I 89 20) I) (cw_RX9_181 rfl) wd_490 rfl ⟨Nat.le_of_ble_eq_true rfl, Nat.le_of_ble_eq_true rfl, Nat.le_of_ble_eq_true rfl, Nat.le_of_ble_eq_true rfl⟩ (Nat.le_of_ble_eq_true rfl) rfl dX9_findPlan_170 (fun r31 I30 => ?_)
  refine J_ck (fun hc32 => ?_)
  refine J_ild (pc := 173) (t := 41) (k := (tn r31)) (ok_m hn 101 (by decide) rfl) iT_41 (inb_in hc32) rfl dX9_findPlan_173 ?_
  refine J_ldc (pc := 174) (v := (1000000 : Int32)) wd_493 dX9_findPlan_174 ?_
  refine J_icmp_lt (pc := 176) (tgt := 192) dX9_findPlan_176 (by decide) ?_ ?_
  · exact hK192 x2 I30
  · refine J_aload_n (pc := 179) (x := 89) dX9_findPlan_179 rfl ?_
    refine J_dupR (pc := 180) dX9_findPlan_180 ?_
    refine J_get (pc := 181) (t := 9) (k := 20) (.int (I30 89 20)) (ok_m hn 89 (by decide) rfl) (by decide) rfl ingX9 (by decide) wd_498 rfl dX9_findPlan_181 ?_
    refine J_iconst (pc := 184) (v := (1 : Int32)) dX9_findPlan_184 (by decide) ?_
    refine J_iadd (pc := 185) dX9_findPlan_185 ?_
    refine J_put (pc := 186) (t := 9) (k := 20) (ok_m hn 89 (by decide) rfl) (by decide) rfl ingX9 tyX9 tyX9_ok nmX9 (by decide) wd_498 rfl pfI (Nat.le_of_ble_eq_true rfl) rfl dX9_findPlan_186 ?_
    refine J_goto (pc := 189) (tgt := 161) dX9_findPlan_189 (by decide) ?_
    exact hR x2 (stm I30 89 20 ((I30 89 20) + (1 : Int32)))
theorem tl_X9_findPlan_161 {G : Gt} (hG : Gok G) (hn : gn G = 104) {K192 : Int32 → Mem → Option Mem} (hK192 : ∀ (x2 : Int32) (I : Mem), J G (mu_X9_findPlan G) 192 [some (.ref 89), none, some (.int x2), none, none, none, none] [] I (K192 x2 I)) (n : Nat) : ∀ (x2 : Int32) (I : Mem), J G (mu_X9_findPlan G) 161 [some (.ref 89), none, some (.int x2), none, none, none, none] [] I (l_X9_findPlan_161 K192 n x2 I) := by
  induction n with
  | zero => intro x2 I; exact J_none
  | succ n ih => intro x2 I; exact tb_X9_findPlan_161 hG hn hK192 ih x2 I
set_option maxRecDepth 100000 in
theorem tb_X9_findPlan_200 {G : Gt} (hG : Gok G) (hn : gn G = 104) {K220 : Int32 → Int32 → Mem → Option Mem} (hK220 : ∀ (x2 : Int32) (x3 : Int32) (I : Mem), J G (mu_X9_findPlan G) 220 [some (.ref 89), none, some (.int x2), some (.int x3), none, none, none] [] I (K220 x2 x3 I)) {R : Int32 → Int32 → Int32 → Mem → Option Mem} (hR : ∀ (x2 : Int32) (x3 : Int32) (x4 : Int32) (I : Mem), J G (mu_X9_findPlan G) 200 [some (.ref 89), none, some (.int x2), some (.int x3), some (.int x4), none, none] [] I (R x2 x3 x4 I)) (x2 : Int32) (x3 : Int32) (x4 : Int32) (I : Mem) : J G (mu_X9_findPlan G) 200 [some (.ref 89), none, some (.int x2), some (.int x3), some (.int x4), none, none] [] I (b_X9_findPlan_200 K220 R x2 x3 x4 I) := by
  unfold b_X9_findPlan_200
  refine J_iload (pc := 200) (x := x4) dX9_findPlan_200 rfl ?_
  refine J_iconst (pc := 202) (v := (4 : Int32)) dX9_findPlan_202 (by decide) ?_
  refine J_icmp_ge (pc := 203) (tgt := 220) dX9_findPlan_203 (by decide) ?_ ?_
  · refine J_weak (ls' := [some (.ref 89), none, some (.int x2), some (.int x3), none, none, none]) ⟨rfl, rfl, rfl, trivial⟩ ?_
    exact hK220 x2 x3 I
  · refine J_aload_n (pc := 206) (x := 89) dX9_findPlan_206 rfl ?_
    refine J_get (pc := 207) (t := 9) (k := 19) (.ref 102) (ok_m hn 89 (by decide) rfl) (by decide) rfl ingX9 (by decide) wd_499 rfl dX9_findPlan_207 ?_
    refine J_iload (pc := 210) (x := x4) dX9_findPlan_210 rfl ?_
    refine J_iconst (pc := 212) (v := (0 : Int32)) dX9_findPlan_212 (by decide) ?_
    refine J_ck (fun hc35 => ?_)
    refine J_ist (pc := 213) (t := 42) (k := (tn x4)) (ok_m hn 102 (by decide) rfl) iT_42 (inb_in hc35) rfl dX9_findPlan_213 ?_
    refine J_iinc (pc := 214) (d := (1 : Int32)) (ls' := [some (.ref 89), none, some (.int x2), some (.int x3), some (.int (x4 + (1 : Int32))), none, none]) dX9_findPlan_214 (by decide) rfl (Nat.le_of_ble_eq_true rfl) rfl rfl ?_
    refine J_goto (pc := 217) (tgt := 200) dX9_findPlan_217 (by decide) ?_
    exact hR x2 x3 (x4 + (1 : Int32)) (stm I 102 (tn x4) (0 : Int32))
theorem tl_X9_findPlan_200 {G : Gt} (hG : Gok G) (hn : gn G = 104) {K220 : Int32 → Int32 → Mem → Option Mem} (hK220 : ∀ (x2 : Int32) (x3 : Int32) (I : Mem), J G (mu_X9_findPlan G) 220 [some (.ref 89), none, some (.int x2), some (.int x3), none, none, none] [] I (K220 x2 x3 I)) (n : Nat) : ∀ (x2 : Int32) (x3 : Int32) (x4 : Int32) (I : Mem), J G (mu_X9_findPlan G) 200 [some (.ref 89), none, some (.int x2), some (.int x3), some (.int x4), none, none] [] I (l_X9_findPlan_200 K220 n x2 x3 x4 I) := by
  induction n with
  | zero => intro x2 x3 x4 I; exact J_none
  | succ n ih => intro x2 x3 x4 I; exact tb_X9_findPlan_200 hG hn hK220 ih x2 x3 x4 I
set_option maxRecDepth 100000 in
theorem tb_X9_findPlan_239 {G : Gt} (hG : Gok G) (hn : gn G = 104) {K295 : Int32 → Int32 → Int32 → Int32 → Mem → Option Mem} (hK295 : ∀ (x2 : Int32) (x3 : Int32) (x4 : Int32) (x5 : Int32) (I : Mem), J G (mu_X9_findPlan G) 295 [some (.ref 89), none, some (.int x2), some (.int x3), some (.int x4), some (.int x5), none] [] I (K295 x2 x3 x4 x5 I)) {R : Int32 → Int32 → Int32 → Int32 → Mem → Option Mem} (hR : ∀ (x2 : Int32) (x3 : Int32) (x4 : Int32) (x5 : Int32) (I : Mem), J G (mu_X9_findPlan G) 239 [some (.ref 89), none, some (.int x2), some (.int x3), some (.int x4), some (.int x5), none] [] I (R x2 x3 x4 x5 I)) (x2 : Int32) (x3 : Int32) (x4 : Int32) (x5 : Int32) (I : Mem) : J G (mu_X9_findPlan G) 239 [some (.ref 89), none, some (.int x2), some (.int x3), some (.int x4), some (.int x5), none] [] I (b_X9_findPlan_239 K295 R x2 x3 x4 x5 I) := by
  unfold b_X9_findPlan_239
  refine J_aload_n (pc := 239) (x := 89) dX9_findPlan_239 rfl ?_
  refine J_get (pc := 240) (t := 9) (k := 18) (.ref 101) (ok_m hn 89 (by decide) rfl) (by decide) rfl ingX9 (by decide) wd_489 rfl dX9_findPlan_240 ?_
  refine J_iload (pc := 243) (x := x4) dX9_findPlan_243 rfl ?_
  refine J_iconst (pc := 245) (v := (1 : Int32)) dX9_findPlan_245 (by decide) ?_
  refine J_iadd (pc := 246) dX9_findPlan_246 ?_
  refine J_iload_n (pc := 247) (x := x3) dX9_findPlan_247 rfl ?_
  refine J_iload (pc := 248) (x := x5) dX9_findPlan_248 rfl ?_
  refine J_aload_n (pc := 250) (x := 89) dX9_findPlan_250 rfl ?_
  refine J_iload (pc := 251) (x := x4) dX9_findPlan_251 rfl ?_
  refine J_callVi (pc := 253) (t := 9) (as := [.int x4]) (st := [.int x5, .int x3, .int (x4 + (1 : Int32)), .ref 101]) (c_X9_pagesOf hG hn x4 I) (ok_m hn 89 (by decide) rfl) (by decide) rfl (cw_RX9_151 rfl) wd_495 wd_494 rfl ⟨Nat.le_of_ble_eq_true rfl, Nat.le_of_ble_eq_true rfl, Nat.le_of_ble_eq_true rfl, Nat.le_of_ble_eq_true rfl⟩ (Nat.le_of_ble_eq_true rfl) rfl dX9_findPlan_253 (fun r43 I42 => ?_)
  refine J_imul (pc := 256) dX9_findPlan_256 ?_
  refine J_isub (pc := 257) dX9_findPlan_257 ?_
  refine J_callSi (pc := 258) (as := [.int (x4 + (1 : Int32)), .int (x3 - (x5 * r43))]) (st := [.ref 101]) (c_X9_at hG hn (x4 + (1 : Int32)) (x3 - (x5 * r43)) I42) (cw_RX9_181 rfl) wd_490 rfl ⟨Nat.le_of_ble_eq_true rfl, Nat.le_of_ble_eq_true rfl, Nat.le_of_ble_eq_true rfl, Nat.le_of_ble_eq_true rfl⟩ (Nat.le_of_ble_eq_true rfl) rfl dX9_findPlan_258 (fun r45 I44 => ?_)
  refine J_ck (fun hc46 => ?_)
  refine J_ild (pc := 261) (t := 41) (k := (tn r45)) (ok_m hn 101 (by decide) rfl) iT_41 (inb_in hc46) rfl dX9_findPlan_261 ?_
  refine J_iload (pc := 262) (x := x5) dX9_findPlan_262 rfl ?_
  refine J_aload_n (pc := 264) (x := 89) dX9_findPlan_264 rfl ?_
  refine J_get (pc := 265) (t := 9) (k := 2) (.ref 91) (ok_m hn 89 (by decide) rfl) (by decide) rfl ingX9 (by decide) wd_467 rfl dX9_findPlan_265 ?_
  refine J_iconst (pc := 268) (v := (4 : Int32)) dX9_findPlan_268 (by decide) ?_
  refine J_iload (pc := 269) (x := x4) dX9_findPlan_269 rfl ?_
  refine J_iadd (pc := 271) dX9_findPlan_271 ?_
  refine J_ck (fun hc47 => ?_)
  refine J_ild (pc := 272) (t := 31) (k := (tn ((4 : Int32) + x4))) (ok_m hn 91 (by decide) rfl) iT_31 (inb_in hc47) rfl dX9_findPlan_272 ?_
  refine J_imul (pc := 273) dX9_findPlan_273 ?_
  refine J_iadd (pc := 274) dX9_findPlan_274 ?_
  refine J_aload_n (pc := 275) (x := 89) dX9_findPlan_275 rfl ?_
  refine J_get (pc := 276) (t := 9) (k := 18) (.ref 101) (ok_m hn 89 (by decide) rfl) (by decide) rfl ingX9 (by decide) wd_489 rfl dX9_findPlan_276 ?_
  refine J_iload (pc := 279) (x := x4) dX9_findPlan_279 rfl ?_
  refine J_iload_n (pc := 281) (x := x3) dX9_findPlan_281 rfl ?_
  refine J_callSi (pc := 282) (as := [.int x4, .int x3]) (st := [.ref 101, .int ((I44 101 (tn r45)) + (x5 * (I44 91 (tn ((4 : Int32) + x4)))))]) (c_X9_at hG hn x4 x3 I44) (cw_RX9_181 rfl) wd_490 rfl ⟨Nat.le_of_ble_eq_true rfl, Nat.le_of_ble_eq_true rfl, Nat.le_of_ble_eq_true rfl, Nat.le_of_ble_eq_true rfl⟩ (Nat.le_of_ble_eq_true rfl) rfl dX9_findPlan_282 (fun r49 I48 => ?_)
  refine J_ck (fun hc50 => ?_)
  refine J_ild (pc := 285) (t := 41) (k := (tn r49)) (ok_m hn 101 (by decide) rfl) iT_41 (inb_in hc50) rfl dX9_findPlan_285 ?_
  refine J_icmp_eq (pc := 286) (tgt := 295) dX9_findPlan_286 (by decide) ?_ ?_
  · exact hK295 x2 x3 x4 x5 I48
  · refine J_iinc (pc := 289) (d := (-1 : Int32)) (ls' := [some (.ref 89), none, some (.int x2), some (.int x3), some (.int x4), some (.int (x5 + (-1 : Int32))), none]) dX9_findPlan_289 (by decide) rfl (Nat.le_of_ble_eq_true rfl) rfl rfl ?_
    refine J_goto (pc := 292) (tgt := 239) dX9_findPlan_292 (by decide) ?_
    exact hR x2 x3 x4 (x5 + (-1 : Int32)) I48
theorem tl_X9_findPlan_239 {G : Gt} (hG : Gok G) (hn : gn G = 104) {K295 : Int32 → Int32 → Int32 → Int32 → Mem → Option Mem} (hK295 : ∀ (x2 : Int32) (x3 : Int32) (x4 : Int32) (x5 : Int32) (I : Mem), J G (mu_X9_findPlan G) 295 [some (.ref 89), none, some (.int x2), some (.int x3), some (.int x4), some (.int x5), none] [] I (K295 x2 x3 x4 x5 I)) (n : Nat) : ∀ (x2 : Int32) (x3 : Int32) (x4 : Int32) (x5 : Int32) (I : Mem), J G (mu_X9_findPlan G) 239 [some (.ref 89), none, some (.int x2), some (.int x3), some (.int x4), some (.int x5), none] [] I (l_X9_findPlan_239 K295 n x2 x3 x4 x5 I) := by
  induction n with
  | zero => intro x2 x3 x4 x5 I; exact J_none
  | succ n ih => intro x2 x3 x4 x5 I; exact tb_X9_findPlan_239 hG hn hK295 ih x2 x3 x4 x5 I
set_option maxRecDepth 100000 in
theorem tb_X9_findPlan_223 {G : Gt} (hG : Gok G) (hn : gn G = 104) {K322 : Mem → Option Mem} (hK322 : ∀ (I : Mem), J G (mu_X9_findPlan G) 322 [none, none, none, none, none, none, none] [] I (K322 I)) {R : Int32 → Int32 → Int32 → Mem → Option Mem} (hR : ∀ (x2 : Int32) (x3 : Int32) (x4 : Int32) (I : Mem), J G (mu_X9_findPlan G) 223 [some (.ref 89), none, some (.int x2), some (.int x3), some (.int x4), none, none] [] I (R x2 x3 x4 I)) (x2 : Int32) (x3 : Int32) (x4 : Int32) (I : Mem) : J G (mu_X9_findPlan G) 223 [some (.ref 89), none, some (.int x2), some (.int x3), some (.int x4), none, none] [] I (b_X9_findPlan_223 K322 R x2 x3 x4 I) := by
  unfold b_X9_findPlan_223
  refine J_iload (pc := 223) (x := x4) dX9_findPlan_223 rfl ?_
  refine J_iload_n (pc := 225) (x := x2) dX9_findPlan_225 rfl ?_
  refine J_icmp_ge (pc := 226) (tgt := 322) dX9_findPlan_226 (by decide) ?_ ?_
  · refine J_weak (ls' := [none, none, none, none, none, none, none]) trivial ?_
    exact hK322 I
  · refine J_iload_n (pc := 229) (x := x3) dX9_findPlan_229 rfl ?_
    refine J_aload_n (pc := 230) (x := 89) dX9_findPlan_230 rfl ?_
    refine J_iload (pc := 231) (x := x4) dX9_findPlan_231 rfl ?_
    refine J_callVi (pc := 233) (t := 9) (as := [.int x4]) (st := [.int x3]) (c_X9_pagesOf hG hn x4 I) (ok_m hn 89 (by decide) rfl) (by decide) rfl (cw_RX9_151 rfl) wd_495 wd_494 rfl ⟨Nat.le_of_ble_eq_true rfl, Nat.le_of_ble_eq_true rfl, Nat.le_of_ble_eq_true rfl, Nat.le_of_ble_eq_true rfl⟩ (Nat.le_of_ble_eq_true rfl) rfl dX9_findPlan_233 (fun r40 I39 => ?_)
    refine J_ck (fun hc41 => ?_)
    refine J_idiv (pc := 236) dX9_findPlan_236 (nz hc41) ?_
    refine J_istore (pc := 237) (ls' := [some (.ref 89), none, some (.int x2), some (.int x3), some (.int x4), some (.int (x3 / r40)), none]) dX9_findPlan_237 (Nat.le_of_ble_eq_true rfl) rfl rfl ?_
    refine tl_X9_findPlan_239 hG hn (fun z51 z52 z53 z54 I55 => ?_) fuel x2 x3 x4 (x3 / r40) I39
    · refine J_aload_n (pc := 295) (x := 89) dX9_findPlan_295 rfl ?_
      refine J_get (pc := 296) (t := 9) (k := 19) (.ref 102) (ok_m hn 89 (by decide) rfl) (by decide) rfl ingX9 (by decide) wd_499 rfl dX9_findPlan_296 ?_
      refine J_iload (pc := 299) (x := z53) dX9_findPlan_299 rfl ?_
      refine J_iload (pc := 301) (x := z54) dX9_findPlan_301 rfl ?_
      refine J_ck (fun hc56 => ?_)
      refine J_ist (pc := 303) (t := 42) (k := (tn z53)) (ok_m hn 102 (by decide) rfl) iT_42 (inb_in hc56) rfl dX9_findPlan_303 ?_
      refine J_iload_n (pc := 304) (x := z52) dX9_findPlan_304 rfl ?_
      refine J_iload (pc := 305) (x := z54) dX9_findPlan_305 rfl ?_
      refine J_aload_n (pc := 307) (x := 89) dX9_findPlan_307 rfl ?_
      refine J_iload (pc := 308) (x := z53) dX9_findPlan_308 rfl ?_
      refine J_callVi (pc := 310) (t := 9) (as := [.int z53]) (st := [.int z54, .int z52]) (c_X9_pagesOf hG hn z53 (stm I55 102 (tn z53) z54)) (ok_m hn 89 (by decide) rfl) (by decide) rfl (cw_RX9_151 rfl) wd_495 wd_494 rfl ⟨Nat.le_of_ble_eq_true rfl, Nat.le_of_ble_eq_true rfl, Nat.le_of_ble_eq_true rfl, Nat.le_of_ble_eq_true rfl⟩ (Nat.le_of_ble_eq_true rfl) rfl dX9_findPlan_310 (fun r58 I57 => ?_)
      refine J_imul (pc := 313) dX9_findPlan_313 ?_
      refine J_isub (pc := 314) dX9_findPlan_314 ?_
      refine J_istore_n (pc := 315) (ls' := [some (.ref 89), none, some (.int z51), some (.int (z52 - (z54 * r58))), some (.int z53), some (.int z54), none]) dX9_findPlan_315 (Nat.le_of_ble_eq_true rfl) rfl rfl ?_
      refine J_iinc (pc := 316) (d := (1 : Int32)) (ls' := [some (.ref 89), none, some (.int z51), some (.int (z52 - (z54 * r58))), some (.int (z53 + (1 : Int32))), some (.int z54), none]) dX9_findPlan_316 (by decide) rfl (Nat.le_of_ble_eq_true rfl) rfl rfl ?_
      refine J_goto (pc := 319) (tgt := 223) dX9_findPlan_319 (by decide) ?_
      refine J_weak (ls' := [some (.ref 89), none, some (.int z51), some (.int (z52 - (z54 * r58))), some (.int (z53 + (1 : Int32))), none, none]) ⟨rfl, rfl, rfl, rfl, trivial⟩ ?_
      exact hR z51 (z52 - (z54 * r58)) (z53 + (1 : Int32)) I57
theorem tl_X9_findPlan_223 {G : Gt} (hG : Gok G) (hn : gn G = 104) {K322 : Mem → Option Mem} (hK322 : ∀ (I : Mem), J G (mu_X9_findPlan G) 322 [none, none, none, none, none, none, none] [] I (K322 I)) (n : Nat) : ∀ (x2 : Int32) (x3 : Int32) (x4 : Int32) (I : Mem), J G (mu_X9_findPlan G) 223 [some (.ref 89), none, some (.int x2), some (.int x3), some (.int x4), none, none] [] I (l_X9_findPlan_223 K322 n x2 x3 x4 I) := by
  induction n with
  | zero => intro x2 x3 x4 I; exact J_none
  | succ n ih => intro x2 x3 x4 I; exact tb_X9_findPlan_223 hG hn hK322 ih x2 x3 x4 I
set_option maxRecDepth 100000 in
theorem c_X9_findPlan {G : Gt} (hG : Gok G) (hn : gn G = 104) (x1 : Int32) (I : Mem) : Ctv G yX9_findPlan cX9_findPlan 7 1 21 [.ref 89, .int x1] I (f_X9_findPlan x1 I) := by
  refine Ctv.of (ls := [some (.ref 89), some (.int x1), none, none, none, none, none]) 5 hG (by decide) rfl (Nat.le_of_ble_eq_true rfl) ?_
  unfold f_X9_findPlan
  refine J_aload_n (pc := 0) (x := 89) dX9_findPlan_0 rfl ?_
  refine J_get (pc := 1) (t := 9) (k := 2) (.ref 91) (ok_m hn 89 (by decide) rfl) (by decide) rfl ingX9 (by decide) wd_467 rfl dX9_findPlan_1 ?_
  refine J_iconst (pc := 4) (v := (3 : Int32)) dX9_findPlan_4 (by decide) ?_
  refine J_ild (pc := 5) (t := 31) (k := 3) (ok_m hn 91 (by decide) rfl) iT_31 (inb_in (by decide)) (by decide) dX9_findPlan_5 ?_
  refine J_istore_n (pc := 6) (ls' := [some (.ref 89), some (.int x1), some (.int (I 91 3)), none, none, none, none]) dX9_findPlan_6 (Nat.le_of_ble_eq_true rfl) rfl rfl ?_
  refine J_iconst (pc := 7) (v := (0 : Int32)) dX9_findPlan_7 (by decide) ?_
  refine J_istore_n (pc := 8) (ls' := [some (.ref 89), some (.int x1), some (.int (I 91 3)), some (.int (0 : Int32)), none, none, none]) dX9_findPlan_8 (Nat.le_of_ble_eq_true rfl) rfl rfl ?_
  refine tl_X9_findPlan_9 hG hn (fun z5 z6 I7 => ?_) fuel x1 (I 91 3) (0 : Int32) I
  · refine J_iload_n (pc := 42) (x := z6) dX9_findPlan_42 rfl ?_
    refine J_iconst (pc := 43) (v := (1 : Int32)) dX9_findPlan_43 (by decide) ?_
    refine J_isub (pc := 44) dX9_findPlan_44 ?_
    refine J_istore_n (pc := 45) (ls' := [some (.ref 89), some (.int z5), some (.int z6), some (.int (z6 - (1 : Int32))), none, none, none]) dX9_findPlan_45 (Nat.le_of_ble_eq_true rfl) rfl rfl ?_
    refine tl_X9_findPlan_46 hG hn (fun z27 z28 I29 => ?_) fuel z5 z6 (z6 - (1 : Int32)) I7
    · refine J_aload_n (pc := 156) (x := 89) dX9_findPlan_156 rfl ?_
      refine J_iload_n (pc := 157) (x := z27) dX9_findPlan_157 rfl ?_
      refine J_put (pc := 158) (t := 9) (k := 20) (ok_m hn 89 (by decide) rfl) (by decide) rfl ingX9 tyX9 tyX9_ok nmX9 (by decide) wd_498 rfl pfI (Nat.le_of_ble_eq_true rfl) rfl dX9_findPlan_158 ?_
      refine J_weak (ls' := [some (.ref 89), none, some (.int z28), none, none, none, none]) ⟨rfl, rfl, trivial⟩ ?_
      refine tl_X9_findPlan_161 hG hn (fun z33 I34 => ?_) fuel z28 (stm I29 89 20 z27)
      · refine J_aload_n (pc := 192) (x := 89) dX9_findPlan_192 rfl ?_
        refine J_get (pc := 193) (t := 9) (k := 20) (.int (I34 89 20)) (ok_m hn 89 (by decide) rfl) (by decide) rfl ingX9 (by decide) wd_498 rfl dX9_findPlan_193 ?_
        refine J_istore_n (pc := 196) (ls' := [some (.ref 89), none, some (.int z33), some (.int (I34 89 20)), none, none, none]) dX9_findPlan_196 (Nat.le_of_ble_eq_true rfl) rfl rfl ?_
        refine J_iconst (pc := 197) (v := (0 : Int32)) dX9_findPlan_197 (by decide) ?_
        refine J_istore (pc := 198) (ls' := [some (.ref 89), none, some (.int z33), some (.int (I34 89 20)), some (.int (0 : Int32)), none, none]) dX9_findPlan_198 (Nat.le_of_ble_eq_true rfl) rfl rfl ?_
        refine tl_X9_findPlan_200 hG hn (fun z36 z37 I38 => ?_) fuel z33 (I34 89 20) (0 : Int32) I34
        · refine J_iconst (pc := 220) (v := (0 : Int32)) dX9_findPlan_220 (by decide) ?_
          refine J_istore (pc := 221) (ls' := [some (.ref 89), none, some (.int z36), some (.int z37), some (.int (0 : Int32)), none, none]) dX9_findPlan_221 (Nat.le_of_ble_eq_true rfl) rfl rfl ?_
          refine tl_X9_findPlan_223 hG hn (fun I59 => ?_) fuel z36 z37 (0 : Int32) I38
          · exact J_vret (pc := 322) dX9_findPlan_322
abbrev mu_X9_sheetMany (G : Gt) : Mt (Int32 × Mem) := mi G cX9_sheetMany 1 yX9_sheetMany.cls (some .int) 2 47
def f_X9_sheetMany (I : Mem) : Option (Int32 × Mem) :=
  bV (f_X9_findPlan (I 91 0) I) fun I1 => some (((((I1 102 0) + (I1 102 1)) + (I1 102 2)) + (I1 102 3)), I1)
set_option maxRecDepth 100000 in
theorem c_X9_sheetMany {G : Gt} (hG : Gok G) (hn : gn G = 104) (I : Mem) : Cti G yX9_sheetMany cX9_sheetMany 1 (some .int) 2 47 [.ref 89] I (f_X9_sheetMany I) := by
  refine Cti.of (ls := [some (.ref 89)]) 0 hG (by decide) rfl (Nat.le_of_ble_eq_true rfl) ?_
  unfold f_X9_sheetMany
  refine J_aload_n (pc := 0) (x := 89) dX9_sheetMany_0 rfl ?_
  refine J_aload_n (pc := 1) (x := 89) dX9_sheetMany_1 rfl ?_
  refine J_get (pc := 2) (t := 9) (k := 2) (.ref 91) (ok_m hn 89 (by decide) rfl) (by decide) rfl ingX9 (by decide) wd_467 rfl dX9_sheetMany_2 ?_
  refine J_iconst (pc := 5) (v := (0 : Int32)) dX9_sheetMany_5 (by decide) ?_
  refine J_ild (pc := 6) (t := 31) (k := 0) (ok_m hn 91 (by decide) rfl) iT_31 (inb_in (by decide)) (by decide) dX9_sheetMany_6 ?_
  refine J_callVv (pc := 7) (t := 9) (as := [.int (I 91 0)]) (st := []) (c_X9_findPlan hG hn (I 91 0) I) (ok_m hn 89 (by decide) rfl) (by decide) rfl (cw_RX9_154 rfl) wd_501 wd_500 rfl ⟨Nat.le_of_ble_eq_true rfl, Nat.le_of_ble_eq_true rfl, Nat.le_of_ble_eq_true rfl, Nat.le_of_ble_eq_true rfl⟩ (Nat.le_of_ble_eq_true rfl) rfl dX9_sheetMany_7 (fun I1 => ?_)
  refine J_aload_n (pc := 10) (x := 89) dX9_sheetMany_10 rfl ?_
  refine J_get (pc := 11) (t := 9) (k := 19) (.ref 102) (ok_m hn 89 (by decide) rfl) (by decide) rfl ingX9 (by decide) wd_499 rfl dX9_sheetMany_11 ?_
  refine J_iconst (pc := 14) (v := (0 : Int32)) dX9_sheetMany_14 (by decide) ?_
  refine J_ild (pc := 15) (t := 42) (k := 0) (ok_m hn 102 (by decide) rfl) iT_42 (inb_in (by decide)) (by decide) dX9_sheetMany_15 ?_
  refine J_aload_n (pc := 16) (x := 89) dX9_sheetMany_16 rfl ?_
  refine J_get (pc := 17) (t := 9) (k := 19) (.ref 102) (ok_m hn 89 (by decide) rfl) (by decide) rfl ingX9 (by decide) wd_499 rfl dX9_sheetMany_17 ?_
  refine J_iconst (pc := 20) (v := (1 : Int32)) dX9_sheetMany_20 (by decide) ?_
  refine J_ild (pc := 21) (t := 42) (k := 1) (ok_m hn 102 (by decide) rfl) iT_42 (inb_in (by decide)) (by decide) dX9_sheetMany_21 ?_
  refine J_iadd (pc := 22) dX9_sheetMany_22 ?_
  refine J_aload_n (pc := 23) (x := 89) dX9_sheetMany_23 rfl ?_
  refine J_get (pc := 24) (t := 9) (k := 19) (.ref 102) (ok_m hn 89 (by decide) rfl) (by decide) rfl ingX9 (by decide) wd_499 rfl dX9_sheetMany_24 ?_
  refine J_iconst (pc := 27) (v := (2 : Int32)) dX9_sheetMany_27 (by decide) ?_
  refine J_ild (pc := 28) (t := 42) (k := 2) (ok_m hn 102 (by decide) rfl) iT_42 (inb_in (by decide)) (by decide) dX9_sheetMany_28 ?_
  refine J_iadd (pc := 29) dX9_sheetMany_29 ?_
  refine J_aload_n (pc := 30) (x := 89) dX9_sheetMany_30 rfl ?_
  refine J_get (pc := 31) (t := 9) (k := 19) (.ref 102) (ok_m hn 89 (by decide) rfl) (by decide) rfl ingX9 (by decide) wd_499 rfl dX9_sheetMany_31 ?_
  refine J_iconst (pc := 34) (v := (3 : Int32)) dX9_sheetMany_34 (by decide) ?_
  refine J_ild (pc := 35) (t := 42) (k := 3) (ok_m hn 102 (by decide) rfl) iT_42 (inb_in (by decide)) (by decide) dX9_sheetMany_35 ?_
  refine J_iadd (pc := 36) dX9_sheetMany_36 ?_
  exact J_iret (pc := 37) dX9_sheetMany_37
abbrev mu_X9_isSheet (G : Gt) : Mt (Int32 × Mem) := mi G cX9_isSheet 2 yX9_isSheet.cls (some .boolean) 3 67
def f_X9_isSheet (x1 : Int32) (I : Mem) : Option (Int32 × Mem) :=
  bI (f_X9_sheetMany I) fun r2 I1 => bI (f_X9_in ((x1).toInt64) (0 : Int64) (((r2 - (1 : Int32))).toInt64) I1) fun r4 I3 => ck (r4 == 0 || r4 == 1) <| some (r4, I3)
set_option maxRecDepth 100000 in
theorem c_X9_isSheet {G : Gt} (hG : Gok G) (hn : gn G = 104) (x1 : Int32) (I : Mem) : Cti G yX9_isSheet cX9_isSheet 2 (some .boolean) 3 67 [.ref 89, .int x1] I (f_X9_isSheet x1 I) := by
  refine Cti.of (ls := [some (.ref 89), some (.int x1)]) 0 hG (by decide) rfl (Nat.le_of_ble_eq_true rfl) ?_
  unfold f_X9_isSheet
  refine J_iload_n (pc := 0) (x := x1) dX9_isSheet_0 rfl ?_
  refine J_i2l (pc := 1) dX9_isSheet_1 ?_
  refine J_lconst (pc := 2) (v := (0 : Int64)) dX9_isSheet_2 (by decide) ?_
  refine J_aload_n (pc := 3) (x := 89) dX9_isSheet_3 rfl ?_
  refine J_callVi (pc := 4) (t := 9) (as := []) (st := [.long (0 : Int64), .long ((x1).toInt64)]) (c_X9_sheetMany hG hn I) (ok_m hn 89 (by decide) rfl) (by decide) rfl (cw_RX9_188 rfl) wd_505 wd_504 rfl ⟨Nat.le_of_ble_eq_true rfl, Nat.le_of_ble_eq_true rfl, Nat.le_of_ble_eq_true rfl, Nat.le_of_ble_eq_true rfl⟩ (Nat.le_of_ble_eq_true rfl) rfl dX9_isSheet_4 (fun r2 I1 => ?_)
  refine J_iconst (pc := 7) (v := (1 : Int32)) dX9_isSheet_7 (by decide) ?_
  refine J_isub (pc := 8) dX9_isSheet_8 ?_
  refine J_i2l (pc := 9) dX9_isSheet_9 ?_
  refine J_callSi (pc := 10) (as := [.long ((x1).toInt64), .long (0 : Int64), .long (((r2 - (1 : Int32))).toInt64)]) (st := []) (c_X9_in hG hn ((x1).toInt64) (0 : Int64) (((r2 - (1 : Int32))).toInt64) I1) (cw_RX9_57 rfl) wd_425 rfl ⟨Nat.le_of_ble_eq_true rfl, Nat.le_of_ble_eq_true rfl, Nat.le_of_ble_eq_true rfl, Nat.le_of_ble_eq_true rfl⟩ (Nat.le_of_ble_eq_true rfl) rfl dX9_isSheet_10 (fun r4 I3 => ?_)
  refine J_ck (fun hc5 => ?_)
  exact J_zret (pc := 13) (nar01 hc5) dX9_isSheet_13
abbrev mu_X9_spoiledMany (G : Gt) : Mt (Int32 × Mem) := mi G cX9_spoiledMany 3 yX9_spoiledMany.cls (some .int) 0 0
def b_X9_spoiledMany_4 (K28 : Int32 → Mem → Option (Int32 × Mem)) (R : Int32 → Int32 → Mem → Option (Int32 × Mem)) (x1 : Int32) (x2 : Int32) (I : Mem) : Option (Int32 × Mem) :=
  (if (104 : Int32) ≤ x2 then K28 x1 I else ck (inb ((28 : Int32) + x2) 132) <| R (x1 + (I 91 (tn ((28 : Int32) + x2)))) (x2 + (1 : Int32)) I)
def l_X9_spoiledMany_4 (K28 : Int32 → Mem → Option (Int32 × Mem)) : Nat → Int32 → Int32 → Mem → Option (Int32 × Mem) := fx (b_X9_spoiledMany_4 K28) (fun _ _ _ => none)
def f_X9_spoiledMany (I : Mem) : Option (Int32 × Mem) :=
  l_X9_spoiledMany_4 (fun (z2 : Int32) I3 => some (z2, I3)) fuel (0 : Int32) (0 : Int32) I
set_option maxRecDepth 100000 in
theorem tb_X9_spoiledMany_4 {G : Gt} (hG : Gok G) (hn : gn G = 104) {K28 : Int32 → Mem → Option (Int32 × Mem)} (hK28 : ∀ (x1 : Int32) (I : Mem), J G (mu_X9_spoiledMany G) 28 [none, some (.int x1), none] [] I (K28 x1 I)) {R : Int32 → Int32 → Mem → Option (Int32 × Mem)} (hR : ∀ (x1 : Int32) (x2 : Int32) (I : Mem), J G (mu_X9_spoiledMany G) 4 [some (.ref 89), some (.int x1), some (.int x2)] [] I (R x1 x2 I)) (x1 : Int32) (x2 : Int32) (I : Mem) : J G (mu_X9_spoiledMany G) 4 [some (.ref 89), some (.int x1), some (.int x2)] [] I (b_X9_spoiledMany_4 K28 R x1 x2 I) := by
  unfold b_X9_spoiledMany_4
  refine J_iload_n (pc := 4) (x := x2) dX9_spoiledMany_4 rfl ?_
  refine J_bipush (pc := 5) (v := (104 : Int32)) dX9_spoiledMany_5 (by decide) ?_
  refine J_icmp_ge (pc := 7) (tgt := 28) dX9_spoiledMany_7 (by decide) ?_ ?_
  · refine J_weak (ls' := [none, some (.int x1), none]) ⟨rfl, trivial⟩ ?_
    exact hK28 x1 I
  · refine J_iload_n (pc := 10) (x := x1) dX9_spoiledMany_10 rfl ?_
    refine J_aload_n (pc := 11) (x := 89) dX9_spoiledMany_11 rfl ?_
    refine J_get (pc := 12) (t := 9) (k := 2) (.ref 91) (ok_m hn 89 (by decide) rfl) (by decide) rfl ingX9 (by decide) wd_467 rfl dX9_spoiledMany_12 ?_
    refine J_bipush (pc := 15) (v := (28 : Int32)) dX9_spoiledMany_15 (by decide) ?_
    refine J_iload_n (pc := 17) (x := x2) dX9_spoiledMany_17 rfl ?_
    refine J_iadd (pc := 18) dX9_spoiledMany_18 ?_
    refine J_ck (fun hc1 => ?_)
    refine J_ild (pc := 19) (t := 31) (k := (tn ((28 : Int32) + x2))) (ok_m hn 91 (by decide) rfl) iT_31 (inb_in hc1) rfl dX9_spoiledMany_19 ?_
    refine J_iadd (pc := 20) dX9_spoiledMany_20 ?_
    refine J_istore_n (pc := 21) (ls' := [some (.ref 89), some (.int (x1 + (I 91 (tn ((28 : Int32) + x2))))), some (.int x2)]) dX9_spoiledMany_21 (Nat.le_of_ble_eq_true rfl) rfl rfl ?_
    refine J_iinc (pc := 22) (d := (1 : Int32)) (ls' := [some (.ref 89), some (.int (x1 + (I 91 (tn ((28 : Int32) + x2))))), some (.int (x2 + (1 : Int32)))]) dX9_spoiledMany_22 (by decide) rfl (Nat.le_of_ble_eq_true rfl) rfl rfl ?_
    refine J_goto (pc := 25) (tgt := 4) dX9_spoiledMany_25 (by decide) ?_
    exact hR (x1 + (I 91 (tn ((28 : Int32) + x2)))) (x2 + (1 : Int32)) I
theorem tl_X9_spoiledMany_4 {G : Gt} (hG : Gok G) (hn : gn G = 104) {K28 : Int32 → Mem → Option (Int32 × Mem)} (hK28 : ∀ (x1 : Int32) (I : Mem), J G (mu_X9_spoiledMany G) 28 [none, some (.int x1), none] [] I (K28 x1 I)) (n : Nat) : ∀ (x1 : Int32) (x2 : Int32) (I : Mem), J G (mu_X9_spoiledMany G) 4 [some (.ref 89), some (.int x1), some (.int x2)] [] I (l_X9_spoiledMany_4 K28 n x1 x2 I) := by
  induction n with
  | zero => intro x1 x2 I; exact J_none
  | succ n ih => intro x1 x2 I; exact tb_X9_spoiledMany_4 hG hn hK28 ih x1 x2 I
set_option maxRecDepth 100000 in
theorem c_X9_spoiledMany {G : Gt} (hG : Gok G) (hn : gn G = 104) (I : Mem) : Cti G yX9_spoiledMany cX9_spoiledMany 3 (some .int) 0 0 [.ref 89] I (f_X9_spoiledMany I) := by
  refine Cti.of (ls := [some (.ref 89), none, none]) 2 hG (by decide) rfl (Nat.le_of_ble_eq_true rfl) ?_
  unfold f_X9_spoiledMany
  refine J_iconst (pc := 0) (v := (0 : Int32)) dX9_spoiledMany_0 (by decide) ?_
  refine J_istore_n (pc := 1) (ls' := [some (.ref 89), some (.int (0 : Int32)), none]) dX9_spoiledMany_1 (Nat.le_of_ble_eq_true rfl) rfl rfl ?_
  refine J_iconst (pc := 2) (v := (0 : Int32)) dX9_spoiledMany_2 (by decide) ?_
  refine J_istore_n (pc := 3) (ls' := [some (.ref 89), some (.int (0 : Int32)), some (.int (0 : Int32))]) dX9_spoiledMany_3 (Nat.le_of_ble_eq_true rfl) rfl rfl ?_
  refine tl_X9_spoiledMany_4 hG hn (fun z2 I3 => ?_) fuel (0 : Int32) (0 : Int32) I
  · refine J_iload_n (pc := 28) (x := z2) dX9_spoiledMany_28 rfl ?_
    exact J_iret (pc := 29) dX9_spoiledMany_29
abbrev mu_X9_spoil (G : Gt) : Mt (Int32 × Mem) := mi G cX9_spoil 3 yX9_spoil.cls (some .int) 4 88
def f_X9_spoil (x1 : Int32) (x2 : Int32) (I : Mem) : Option (Int32 × Mem) :=
  bI (f_X9_isSheet x1 I) fun r2 I1 => (if r2 = 0 then some ((-1 : Int32), I1) else bI (f_X9_in ((x2).toInt64) (0 : Int64) (1 : Int64) I1) fun r4 I3 => (if r4 = 0 then some ((-1 : Int32), I3) else ck (inb ((28 : Int32) + x1) 132) <| (if (I3 91 (tn ((28 : Int32) + x1))) = x2 then some ((-2 : Int32), I3) else bV (f_X9_note I3) fun I6 => ck (inb ((28 : Int32) + x1) 132) <| bI (f_X9_spoiledMany (stm I6 91 (tn ((28 : Int32) + x1)) x2)) fun r9 I8 => some (r9, I8))))
set_option maxRecDepth 100000 in
theorem c_X9_spoil {G : Gt} (hG : Gok G) (hn : gn G = 104) (x1 : Int32) (x2 : Int32) (I : Mem) : Cti G yX9_spoil cX9_spoil 3 (some .int) 4 88 [.ref 89, .int x1, .int x2] I (f_X9_spoil x1 x2 I) := by
  refine Cti.of (ls := [some (.ref 89), some (.int x1), some (.int x2)]) 0 hG (by decide) rfl (Nat.le_of_ble_eq_true rfl) ?_
  unfold f_X9_spoil
  refine J_aload_n (pc := 0) (x := 89) dX9_spoil_0 rfl ?_
  refine J_iload_n (pc := 1) (x := x1) dX9_spoil_1 rfl ?_
  refine J_callVi (pc := 2) (t := 9) (as := [.int x1]) (st := []) (c_X9_isSheet hG hn x1 I) (ok_m hn 89 (by decide) rfl) (by decide) rfl (cw_RX9_218 rfl) wd_509 wd_508 rfl ⟨Nat.le_of_ble_eq_true rfl, Nat.le_of_ble_eq_true rfl, Nat.le_of_ble_eq_true rfl, Nat.le_of_ble_eq_true rfl⟩ (Nat.le_of_ble_eq_true rfl) rfl dX9_spoil_2 (fun r2 I1 => ?_)
  refine J_if_eq (pc := 5) (tgt := 18) dX9_spoil_5 (by decide) ?_ ?_
  · refine J_iconst (pc := 18) (v := (-1 : Int32)) dX9_spoil_18 (by decide) ?_
    exact J_iret (pc := 19) dX9_spoil_19
  · refine J_iload_n (pc := 8) (x := x2) dX9_spoil_8 rfl ?_
    refine J_i2l (pc := 9) dX9_spoil_9 ?_
    refine J_lconst (pc := 10) (v := (0 : Int64)) dX9_spoil_10 (by decide) ?_
    refine J_lconst (pc := 11) (v := (1 : Int64)) dX9_spoil_11 (by decide) ?_
    refine J_callSi (pc := 12) (as := [.long ((x2).toInt64), .long (0 : Int64), .long (1 : Int64)]) (st := []) (c_X9_in hG hn ((x2).toInt64) (0 : Int64) (1 : Int64) I1) (cw_RX9_57 rfl) wd_425 rfl ⟨Nat.le_of_ble_eq_true rfl, Nat.le_of_ble_eq_true rfl, Nat.le_of_ble_eq_true rfl, Nat.le_of_ble_eq_true rfl⟩ (Nat.le_of_ble_eq_true rfl) rfl dX9_spoil_12 (fun r4 I3 => ?_)
    refine J_if_ne (pc := 15) (tgt := 20) dX9_spoil_15 (by decide) ?_ ?_
    · refine J_iconst (pc := 18) (v := (-1 : Int32)) dX9_spoil_18 (by decide) ?_
      exact J_iret (pc := 19) dX9_spoil_19
    · refine J_aload_n (pc := 20) (x := 89) dX9_spoil_20 rfl ?_
      refine J_get (pc := 21) (t := 9) (k := 2) (.ref 91) (ok_m hn 89 (by decide) rfl) (by decide) rfl ingX9 (by decide) wd_467 rfl dX9_spoil_21 ?_
      refine J_bipush (pc := 24) (v := (28 : Int32)) dX9_spoil_24 (by decide) ?_
      refine J_iload_n (pc := 26) (x := x1) dX9_spoil_26 rfl ?_
      refine J_iadd (pc := 27) dX9_spoil_27 ?_
      refine J_ck (fun hc5 => ?_)
      refine J_ild (pc := 28) (t := 31) (k := (tn ((28 : Int32) + x1))) (ok_m hn 91 (by decide) rfl) iT_31 (inb_in hc5) rfl dX9_spoil_28 ?_
      refine J_iload_n (pc := 29) (x := x2) dX9_spoil_29 rfl ?_
      refine J_icmp_ne (pc := 30) (tgt := 36) dX9_spoil_30 (by decide) ?_ ?_
      · refine J_bipush (pc := 33) (v := (-2 : Int32)) dX9_spoil_33 (by decide) ?_
        exact J_iret (pc := 35) dX9_spoil_35
      · refine J_aload_n (pc := 36) (x := 89) dX9_spoil_36 rfl ?_
        refine J_callVv (pc := 37) (t := 9) (as := []) (st := []) (c_X9_note hG hn I3) (ok_m hn 89 (by decide) rfl) (by decide) rfl (cw_RX9_109 rfl) wd_472 wd_471 rfl ⟨Nat.le_of_ble_eq_true rfl, Nat.le_of_ble_eq_true rfl, Nat.le_of_ble_eq_true rfl, Nat.le_of_ble_eq_true rfl⟩ (Nat.le_of_ble_eq_true rfl) rfl dX9_spoil_37 (fun I6 => ?_)
        refine J_aload_n (pc := 40) (x := 89) dX9_spoil_40 rfl ?_
        refine J_get (pc := 41) (t := 9) (k := 2) (.ref 91) (ok_m hn 89 (by decide) rfl) (by decide) rfl ingX9 (by decide) wd_467 rfl dX9_spoil_41 ?_
        refine J_bipush (pc := 44) (v := (28 : Int32)) dX9_spoil_44 (by decide) ?_
        refine J_iload_n (pc := 46) (x := x1) dX9_spoil_46 rfl ?_
        refine J_iadd (pc := 47) dX9_spoil_47 ?_
        refine J_iload_n (pc := 48) (x := x2) dX9_spoil_48 rfl ?_
        refine J_ck (fun hc7 => ?_)
        refine J_ist (pc := 49) (t := 31) (k := (tn ((28 : Int32) + x1))) (ok_m hn 91 (by decide) rfl) iT_31 (inb_in hc7) rfl dX9_spoil_49 ?_
        refine J_aload_n (pc := 50) (x := 89) dX9_spoil_50 rfl ?_
        refine J_callVi (pc := 51) (t := 9) (as := []) (st := []) (c_X9_spoiledMany hG hn (stm I6 91 (tn ((28 : Int32) + x1)) x2)) (ok_m hn 89 (by decide) rfl) (by decide) rfl (cw_RX9_221 rfl) wd_513 wd_512 rfl ⟨Nat.le_of_ble_eq_true rfl, Nat.le_of_ble_eq_true rfl, Nat.le_of_ble_eq_true rfl, Nat.le_of_ble_eq_true rfl⟩ (Nat.le_of_ble_eq_true rfl) rfl dX9_spoil_51 (fun r9 I8 => ?_)
        exact J_iret (pc := 54) dX9_spoil_54
abbrev mu_X9_undo (G : Gt) : Mt (Int32 × Mem) := mi G cX9_undo 2 yX9_undo.cls (some .int) 0 0
def b_X9_undo_22 (K56 : Mem → Option (Int32 × Mem)) (R : Int32 → Mem → Option (Int32 × Mem)) (x1 : Int32) (I : Mem) : Option (Int32 × Mem) :=
  (if (132 : Int32) ≤ x1 then K56 I else ck (inb (((132 : Int32) * (I 89 4)) + x1) 792) <| ck (inb x1 132) <| R (x1 + (1 : Int32)) (stm I 91 (tn x1) (I 92 (tn (((132 : Int32) * (I 89 4)) + x1)))))
def l_X9_undo_22 (K56 : Mem → Option (Int32 × Mem)) : Nat → Int32 → Mem → Option (Int32 × Mem) := fx (b_X9_undo_22 K56) (fun _ _ => none)
def f_X9_undo (I : Mem) : Option (Int32 × Mem) :=
  (if (I 89 4) = 0 then some ((-2 : Int32), I) else l_X9_undo_22 (fun I3 => some ((I3 89 4), I3)) fuel (0 : Int32) (stm I 89 4 ((I 89 4) - (1 : Int32))))
set_option maxRecDepth 100000 in
theorem tb_X9_undo_22 {G : Gt} (hG : Gok G) (hn : gn G = 104) {K56 : Mem → Option (Int32 × Mem)} (hK56 : ∀ (I : Mem), J G (mu_X9_undo G) 56 [some (.ref 89), none] [] I (K56 I)) {R : Int32 → Mem → Option (Int32 × Mem)} (hR : ∀ (x1 : Int32) (I : Mem), J G (mu_X9_undo G) 22 [some (.ref 89), some (.int x1)] [] I (R x1 I)) (x1 : Int32) (I : Mem) : J G (mu_X9_undo G) 22 [some (.ref 89), some (.int x1)] [] I (b_X9_undo_22 K56 R x1 I) := by
  unfold b_X9_undo_22
  refine J_iload_n (pc := 22) (x := x1) dX9_undo_22 rfl ?_
  refine J_sipush (pc := 23) (v := (132 : Int32)) dX9_undo_23 (by decide) ?_
  refine J_icmp_ge (pc := 26) (tgt := 56) dX9_undo_26 (by decide) ?_ ?_
  · refine J_weak (ls' := [some (.ref 89), none]) ⟨rfl, trivial⟩ ?_
    exact hK56 I
  · refine J_aload_n (pc := 29) (x := 89) dX9_undo_29 rfl ?_
    refine J_get (pc := 30) (t := 9) (k := 2) (.ref 91) (ok_m hn 89 (by decide) rfl) (by decide) rfl ingX9 (by decide) wd_467 rfl dX9_undo_30 ?_
    refine J_iload_n (pc := 33) (x := x1) dX9_undo_33 rfl ?_
    refine J_aload_n (pc := 34) (x := 89) dX9_undo_34 rfl ?_
    refine J_get (pc := 35) (t := 9) (k := 3) (.ref 92) (ok_m hn 89 (by decide) rfl) (by decide) rfl ingX9 (by decide) wd_470 rfl dX9_undo_35 ?_
    refine J_sipush (pc := 38) (v := (132 : Int32)) dX9_undo_38 (by decide) ?_
    refine J_aload_n (pc := 41) (x := 89) dX9_undo_41 rfl ?_
    refine J_get (pc := 42) (t := 9) (k := 4) (.int (I 89 4)) (ok_m hn 89 (by decide) rfl) (by decide) rfl ingX9 (by decide) wd_468 rfl dX9_undo_42 ?_
    refine J_imul (pc := 45) dX9_undo_45 ?_
    refine J_iload_n (pc := 46) (x := x1) dX9_undo_46 rfl ?_
    refine J_iadd (pc := 47) dX9_undo_47 ?_
    refine J_ck (fun hc1 => ?_)
    refine J_ild (pc := 48) (t := 32) (k := (tn (((132 : Int32) * (I 89 4)) + x1))) (ok_m hn 92 (by decide) rfl) iT_32 (inb_in hc1) rfl dX9_undo_48 ?_
    refine J_ck (fun hc2 => ?_)
    refine J_ist (pc := 49) (t := 31) (k := (tn x1)) (ok_m hn 91 (by decide) rfl) iT_31 (inb_in hc2) rfl dX9_undo_49 ?_
    refine J_iinc (pc := 50) (d := (1 : Int32)) (ls' := [some (.ref 89), some (.int (x1 + (1 : Int32)))]) dX9_undo_50 (by decide) rfl (Nat.le_of_ble_eq_true rfl) rfl rfl ?_
    refine J_goto (pc := 53) (tgt := 22) dX9_undo_53 (by decide) ?_
    exact hR (x1 + (1 : Int32)) (stm I 91 (tn x1) (I 92 (tn (((132 : Int32) * (I 89 4)) + x1))))
theorem tl_X9_undo_22 {G : Gt} (hG : Gok G) (hn : gn G = 104) {K56 : Mem → Option (Int32 × Mem)} (hK56 : ∀ (I : Mem), J G (mu_X9_undo G) 56 [some (.ref 89), none] [] I (K56 I)) (n : Nat) : ∀ (x1 : Int32) (I : Mem), J G (mu_X9_undo G) 22 [some (.ref 89), some (.int x1)] [] I (l_X9_undo_22 K56 n x1 I) := by
  induction n with
  | zero => intro x1 I; exact J_none
  | succ n ih => intro x1 I; exact tb_X9_undo_22 hG hn hK56 ih x1 I
set_option maxRecDepth 100000 in
theorem c_X9_undo {G : Gt} (hG : Gok G) (hn : gn G = 104) (I : Mem) : Cti G yX9_undo cX9_undo 2 (some .int) 0 0 [.ref 89] I (f_X9_undo I) := by
  refine Cti.of (ls := [some (.ref 89), none]) 1 hG (by decide) rfl (Nat.le_of_ble_eq_true rfl) ?_
  unfold f_X9_undo
  refine J_aload_n (pc := 0) (x := 89) dX9_undo_0 rfl ?_
  refine J_get (pc := 1) (t := 9) (k := 4) (.int (I 89 4)) (ok_m hn 89 (by decide) rfl) (by decide) rfl ingX9 (by decide) wd_468 rfl dX9_undo_1 ?_
  refine J_if_ne (pc := 4) (tgt := 10) dX9_undo_4 (by decide) ?_ ?_
  · refine J_bipush (pc := 7) (v := (-2 : Int32)) dX9_undo_7 (by decide) ?_
    exact J_iret (pc := 9) dX9_undo_9
  · refine J_aload_n (pc := 10) (x := 89) dX9_undo_10 rfl ?_
    refine J_dupR (pc := 11) dX9_undo_11 ?_
    refine J_get (pc := 12) (t := 9) (k := 4) (.int (I 89 4)) (ok_m hn 89 (by decide) rfl) (by decide) rfl ingX9 (by decide) wd_468 rfl dX9_undo_12 ?_
    refine J_iconst (pc := 15) (v := (1 : Int32)) dX9_undo_15 (by decide) ?_
    refine J_isub (pc := 16) dX9_undo_16 ?_
    refine J_put (pc := 17) (t := 9) (k := 4) (ok_m hn 89 (by decide) rfl) (by decide) rfl ingX9 tyX9 tyX9_ok nmX9 (by decide) wd_468 rfl pfI (Nat.le_of_ble_eq_true rfl) rfl dX9_undo_17 ?_
    refine J_iconst (pc := 20) (v := (0 : Int32)) dX9_undo_20 (by decide) ?_
    refine J_istore_n (pc := 21) (ls' := [some (.ref 89), some (.int (0 : Int32))]) dX9_undo_21 (Nat.le_of_ble_eq_true rfl) rfl rfl ?_
    refine tl_X9_undo_22 hG hn (fun I3 => ?_) fuel (0 : Int32) (stm I 89 4 ((I 89 4) - (1 : Int32)))
    · refine J_aload_n (pc := 56) (x := 89) dX9_undo_56 rfl ?_
      refine J_get (pc := 57) (t := 9) (k := 4) (.int (I3 89 4)) (ok_m hn 89 (by decide) rfl) (by decide) rfl ingX9 (by decide) wd_468 rfl dX9_undo_57 ?_
      exact J_iret (pc := 60) dX9_undo_60
abbrev mu_X9_acrossOf (G : Gt) : Mt (Int32 × Mem) := mi G cX9_acrossOf 4 yX9_acrossOf.cls (some .int) 1 20
def b_X9_acrossOf_4 (K54 : Int32 → Mem → Option (Int32 × Mem)) (R : Int32 → Int32 → Int32 → Mem → Option (Int32 × Mem)) (x1 : Int32) (x2 : Int32) (x3 : Int32) (I : Mem) : Option (Int32 × Mem) :=
  ck (inb ((8 : Int32) + ((5 : Int32) * x1)) 132) <| (if (I 91 (tn ((8 : Int32) + ((5 : Int32) * x1)))) ≤ x3 then K54 x2 I else ck (inb ((((8 : Int32) + ((5 : Int32) * x1)) + (1 : Int32)) + x3) 132) <| bI (f_X9_isSide (I 91 (tn ((((8 : Int32) + ((5 : Int32) * x1)) + (1 : Int32)) + x3))) I) fun r4 I3 => (if r4 = 0 then R x1 (x2 * (1 : Int32)) (x3 + (1 : Int32)) I3 else R x1 (x2 * (2 : Int32)) (x3 + (1 : Int32)) I3))
def l_X9_acrossOf_4 (K54 : Int32 → Mem → Option (Int32 × Mem)) : Nat → Int32 → Int32 → Int32 → Mem → Option (Int32 × Mem) := fx (b_X9_acrossOf_4 K54) (fun _ _ _ _ => none)
def f_X9_acrossOf (x1 : Int32) (I : Mem) : Option (Int32 × Mem) :=
  l_X9_acrossOf_4 (fun (z5 : Int32) I6 => some (z5, I6)) fuel x1 (1 : Int32) (0 : Int32) I
set_option maxRecDepth 100000 in
theorem tb_X9_acrossOf_4 {G : Gt} (hG : Gok G) (hn : gn G = 104) {K54 : Int32 → Mem → Option (Int32 × Mem)} (hK54 : ∀ (x2 : Int32) (I : Mem), J G (mu_X9_acrossOf G) 54 [none, none, some (.int x2), none] [] I (K54 x2 I)) {R : Int32 → Int32 → Int32 → Mem → Option (Int32 × Mem)} (hR : ∀ (x1 : Int32) (x2 : Int32) (x3 : Int32) (I : Mem), J G (mu_X9_acrossOf G) 4 [some (.ref 89), some (.int x1), some (.int x2), some (.int x3)] [] I (R x1 x2 x3 I)) (x1 : Int32) (x2 : Int32) (x3 : Int32) (I : Mem) : J G (mu_X9_acrossOf G) 4 [some (.ref 89), some (.int x1), some (.int x2), some (.int x3)] [] I (b_X9_acrossOf_4 K54 R x1 x2 x3 I) := by
  unfold b_X9_acrossOf_4
  refine J_iload_n (pc := 4) (x := x3) dX9_acrossOf_4 rfl ?_
  refine J_aload_n (pc := 5) (x := 89) dX9_acrossOf_5 rfl ?_
  refine J_get (pc := 6) (t := 9) (k := 2) (.ref 91) (ok_m hn 89 (by decide) rfl) (by decide) rfl ingX9 (by decide) wd_467 rfl dX9_acrossOf_6 ?_
  refine J_bipush (pc := 9) (v := (8 : Int32)) dX9_acrossOf_9 (by decide) ?_
  refine J_iconst (pc := 11) (v := (5 : Int32)) dX9_acrossOf_11 (by decide) ?_
  refine J_iload_n (pc := 12) (x := x1) dX9_acrossOf_12 rfl ?_
  refine J_imul (pc := 13) dX9_acrossOf_13 ?_
  refine J_iadd (pc := 14) dX9_acrossOf_14 ?_
  refine J_ck (fun hc1 => ?_)
  refine J_ild (pc := 15) (t := 31) (k := (tn ((8 : Int32) + ((5 : Int32) * x1)))) (ok_m hn 91 (by decide) rfl) iT_31 (inb_in hc1) rfl dX9_acrossOf_15 ?_
  refine J_icmp_ge (pc := 16) (tgt := 54) dX9_acrossOf_16 (by decide) ?_ ?_
  · refine J_weak (ls' := [none, none, some (.int x2), none]) ⟨rfl, trivial⟩ ?_
    exact hK54 x2 I
  · refine J_iload_n (pc := 19) (x := x2) dX9_acrossOf_19 rfl ?_
    refine J_aload_n (pc := 20) (x := 89) dX9_acrossOf_20 rfl ?_
    refine J_get (pc := 21) (t := 9) (k := 2) (.ref 91) (ok_m hn 89 (by decide) rfl) (by decide) rfl ingX9 (by decide) wd_467 rfl dX9_acrossOf_21 ?_
    refine J_bipush (pc := 24) (v := (8 : Int32)) dX9_acrossOf_24 (by decide) ?_
    refine J_iconst (pc := 26) (v := (5 : Int32)) dX9_acrossOf_26 (by decide) ?_
    refine J_iload_n (pc := 27) (x := x1) dX9_acrossOf_27 rfl ?_
    refine J_imul (pc := 28) dX9_acrossOf_28 ?_
    refine J_iadd (pc := 29) dX9_acrossOf_29 ?_
    refine J_iconst (pc := 30) (v := (1 : Int32)) dX9_acrossOf_30 (by decide) ?_
    refine J_iadd (pc := 31) dX9_acrossOf_31 ?_
    refine J_iload_n (pc := 32) (x := x3) dX9_acrossOf_32 rfl ?_
    refine J_iadd (pc := 33) dX9_acrossOf_33 ?_
    refine J_ck (fun hc2 => ?_)
    refine J_ild (pc := 34) (t := 31) (k := (tn ((((8 : Int32) + ((5 : Int32) * x1)) + (1 : Int32)) + x3))) (ok_m hn 91 (by decide) rfl) iT_31 (inb_in hc2) rfl dX9_acrossOf_34 ?_
    refine J_callSi (pc := 35) (as := [.int (I 91 (tn ((((8 : Int32) + ((5 : Int32) * x1)) + (1 : Int32)) + x3)))]) (st := [.int x2]) (c_X9_isSide hG hn (I 91 (tn ((((8 : Int32) + ((5 : Int32) * x1)) + (1 : Int32)) + x3))) I) (cw_RX9_80 rfl) wd_452 rfl ⟨Nat.le_of_ble_eq_true rfl, Nat.le_of_ble_eq_true rfl, Nat.le_of_ble_eq_true rfl, Nat.le_of_ble_eq_true rfl⟩ (Nat.le_of_ble_eq_true rfl) rfl dX9_acrossOf_35 (fun r4 I3 => ?_)
    refine J_if_eq (pc := 38) (tgt := 45) dX9_acrossOf_38 (by decide) ?_ ?_
    · refine J_iconst (pc := 45) (v := (1 : Int32)) dX9_acrossOf_45 (by decide) ?_
      refine J_imul (pc := 46) dX9_acrossOf_46 ?_
      refine J_istore_n (pc := 47) (ls' := [some (.ref 89), some (.int x1), some (.int (x2 * (1 : Int32))), some (.int x3)]) dX9_acrossOf_47 (Nat.le_of_ble_eq_true rfl) rfl rfl ?_
      refine J_iinc (pc := 48) (d := (1 : Int32)) (ls' := [some (.ref 89), some (.int x1), some (.int (x2 * (1 : Int32))), some (.int (x3 + (1 : Int32)))]) dX9_acrossOf_48 (by decide) rfl (Nat.le_of_ble_eq_true rfl) rfl rfl ?_
      refine J_goto (pc := 51) (tgt := 4) dX9_acrossOf_51 (by decide) ?_
      exact hR x1 (x2 * (1 : Int32)) (x3 + (1 : Int32)) I3
    · refine J_iconst (pc := 41) (v := (2 : Int32)) dX9_acrossOf_41 (by decide) ?_
      refine J_goto (pc := 42) (tgt := 46) dX9_acrossOf_42 (by decide) ?_
      refine J_imul (pc := 46) dX9_acrossOf_46 ?_
      refine J_istore_n (pc := 47) (ls' := [some (.ref 89), some (.int x1), some (.int (x2 * (2 : Int32))), some (.int x3)]) dX9_acrossOf_47 (Nat.le_of_ble_eq_true rfl) rfl rfl ?_
      refine J_iinc (pc := 48) (d := (1 : Int32)) (ls' := [some (.ref 89), some (.int x1), some (.int (x2 * (2 : Int32))), some (.int (x3 + (1 : Int32)))]) dX9_acrossOf_48 (by decide) rfl (Nat.le_of_ble_eq_true rfl) rfl rfl ?_
      refine J_goto (pc := 51) (tgt := 4) dX9_acrossOf_51 (by decide) ?_
      exact hR x1 (x2 * (2 : Int32)) (x3 + (1 : Int32)) I3
theorem tl_X9_acrossOf_4 {G : Gt} (hG : Gok G) (hn : gn G = 104) {K54 : Int32 → Mem → Option (Int32 × Mem)} (hK54 : ∀ (x2 : Int32) (I : Mem), J G (mu_X9_acrossOf G) 54 [none, none, some (.int x2), none] [] I (K54 x2 I)) (n : Nat) : ∀ (x1 : Int32) (x2 : Int32) (x3 : Int32) (I : Mem), J G (mu_X9_acrossOf G) 4 [some (.ref 89), some (.int x1), some (.int x2), some (.int x3)] [] I (l_X9_acrossOf_4 K54 n x1 x2 x3 I) := by
  induction n with
  | zero => intro x1 x2 x3 I; exact J_none
  | succ n ih => intro x1 x2 x3 I; exact tb_X9_acrossOf_4 hG hn hK54 ih x1 x2 x3 I
set_option maxRecDepth 100000 in
theorem c_X9_acrossOf {G : Gt} (hG : Gok G) (hn : gn G = 104) (x1 : Int32) (I : Mem) : Cti G yX9_acrossOf cX9_acrossOf 4 (some .int) 1 20 [.ref 89, .int x1] I (f_X9_acrossOf x1 I) := by
  refine Cti.of (ls := [some (.ref 89), some (.int x1), none, none]) 2 hG (by decide) rfl (Nat.le_of_ble_eq_true rfl) ?_
  unfold f_X9_acrossOf
  refine J_iconst (pc := 0) (v := (1 : Int32)) dX9_acrossOf_0 (by decide) ?_
  refine J_istore_n (pc := 1) (ls' := [some (.ref 89), some (.int x1), some (.int (1 : Int32)), none]) dX9_acrossOf_1 (Nat.le_of_ble_eq_true rfl) rfl rfl ?_
  refine J_iconst (pc := 2) (v := (0 : Int32)) dX9_acrossOf_2 (by decide) ?_
  refine J_istore_n (pc := 3) (ls' := [some (.ref 89), some (.int x1), some (.int (1 : Int32)), some (.int (0 : Int32))]) dX9_acrossOf_3 (Nat.le_of_ble_eq_true rfl) rfl rfl ?_
  refine tl_X9_acrossOf_4 hG hn (fun z5 I6 => ?_) fuel x1 (1 : Int32) (0 : Int32) I
  · refine J_iload_n (pc := 54) (x := z5) dX9_acrossOf_54 rfl ?_
    exact J_iret (pc := 55) dX9_acrossOf_55
abbrev mu_X9_scheme (G : Gt) : Mt (Int32 × Mem) := mi G cX9_scheme 3 yX9_scheme.cls (some .int) 2 47
def f_X9_scheme (x1 : Int32) (x2 : Int32) (I : Mem) : Option (Int32 × Mem) :=
  bI (f_X9_isScheme x1 I) fun r2 I1 => (if r2 = 0 then some ((-1 : Int32), I1) else bI (f_X9_in ((x2).toInt64) (0 : Int64) (5 : Int64) I1) fun r4 I3 => (if r4 = 0 then some ((-1 : Int32), I3) else (if x2 = (0 : Int32) then ck (inb ((8 : Int32) + ((5 : Int32) * x1)) 132) <| some ((I3 91 (tn ((8 : Int32) + ((5 : Int32) * x1)))), I3) else (if x2 = (1 : Int32) then bI (f_X9_acrossOf x1 I3) fun r9 I8 => some (r9, I8) else (if x2 = (2 : Int32) then bI (f_X9_pagesOf x1 I3) fun r12 I11 => bI (f_X9_acrossOf x1 I11) fun r14 I13 => ck (!(r14 == 0)) <| some (((r12 / (2 : Int32)) / r14), I13) else (if x2 = (3 : Int32) then bI (f_X9_pagesOf x1 I3) fun r18 I17 => some (r18, I17) else (if x2 = (4 : Int32) then ck (inb ((4 : Int32) + x1) 132) <| some ((I3 91 (tn ((4 : Int32) + x1))), I3) else bV (f_X9_findPlan (I3 91 0) I3) fun I21 => ck (inb x1 4) <| some ((I21 102 (tn x1)), I21))))))))
set_option maxRecDepth 100000 in
theorem c_X9_scheme {G : Gt} (hG : Gok G) (hn : gn G = 104) (x1 : Int32) (x2 : Int32) (I : Mem) : Cti G yX9_scheme cX9_scheme 3 (some .int) 2 47 [.ref 89, .int x1, .int x2] I (f_X9_scheme x1 x2 I) := by
  refine Cti.of (ls := [some (.ref 89), some (.int x1), some (.int x2)]) 0 hG (by decide) rfl (Nat.le_of_ble_eq_true rfl) ?_
  unfold f_X9_scheme
  refine J_aload_n (pc := 0) (x := 89) dX9_scheme_0 rfl ?_
  refine J_iload_n (pc := 1) (x := x1) dX9_scheme_1 rfl ?_
  refine J_callVi (pc := 2) (t := 9) (as := [.int x1]) (st := []) (c_X9_isScheme hG hn x1 I) (ok_m hn 89 (by decide) rfl) (by decide) rfl (cw_RX9_122 rfl) wd_485 wd_484 rfl ⟨Nat.le_of_ble_eq_true rfl, Nat.le_of_ble_eq_true rfl, Nat.le_of_ble_eq_true rfl, Nat.le_of_ble_eq_true rfl⟩ (Nat.le_of_ble_eq_true rfl) rfl dX9_scheme_2 (fun r2 I1 => ?_)
  refine J_if_eq (pc := 5) (tgt := 20) dX9_scheme_5 (by decide) ?_ ?_
  · refine J_iconst (pc := 20) (v := (-1 : Int32)) dX9_scheme_20 (by decide) ?_
    exact J_iret (pc := 21) dX9_scheme_21
  · refine J_iload_n (pc := 8) (x := x2) dX9_scheme_8 rfl ?_
    refine J_i2l (pc := 9) dX9_scheme_9 ?_
    refine J_lconst (pc := 10) (v := (0 : Int64)) dX9_scheme_10 (by decide) ?_
    refine J_ldc2 (pc := 11) (v := (5 : Int64)) wd_516 dX9_scheme_11 ?_
    refine J_callSi (pc := 14) (as := [.long ((x2).toInt64), .long (0 : Int64), .long (5 : Int64)]) (st := []) (c_X9_in hG hn ((x2).toInt64) (0 : Int64) (5 : Int64) I1) (cw_RX9_57 rfl) wd_425 rfl ⟨Nat.le_of_ble_eq_true rfl, Nat.le_of_ble_eq_true rfl, Nat.le_of_ble_eq_true rfl, Nat.le_of_ble_eq_true rfl⟩ (Nat.le_of_ble_eq_true rfl) rfl dX9_scheme_14 (fun r4 I3 => ?_)
    refine J_if_ne (pc := 17) (tgt := 22) dX9_scheme_17 (by decide) ?_ ?_
    · refine J_iconst (pc := 20) (v := (-1 : Int32)) dX9_scheme_20 (by decide) ?_
      exact J_iret (pc := 21) dX9_scheme_21
    · refine J_iload_n (pc := 22) (x := x2) dX9_scheme_22 rfl ?_
      refine J_ite (fun hq5 => ?_) (fun hq5 => ?_)
      · refine J_tblIn (pc := 23) (off := 33) (tgt := 56) dX9_scheme_23 (by rw [hq5]; decide) (by rw [hq5]; decide) (by rw [hq5]; decide) (by decide) ?_
        refine J_aload_n (pc := 56) (x := 89) dX9_scheme_56 rfl ?_
        refine J_get (pc := 57) (t := 9) (k := 2) (.ref 91) (ok_m hn 89 (by decide) rfl) (by decide) rfl ingX9 (by decide) wd_467 rfl dX9_scheme_57 ?_
        refine J_bipush (pc := 60) (v := (8 : Int32)) dX9_scheme_60 (by decide) ?_
        refine J_iconst (pc := 62) (v := (5 : Int32)) dX9_scheme_62 (by decide) ?_
        refine J_iload_n (pc := 63) (x := x1) dX9_scheme_63 rfl ?_
        refine J_imul (pc := 64) dX9_scheme_64 ?_
        refine J_iadd (pc := 65) dX9_scheme_65 ?_
        refine J_ck (fun hc6 => ?_)
        refine J_ild (pc := 66) (t := 31) (k := (tn ((8 : Int32) + ((5 : Int32) * x1)))) (ok_m hn 91 (by decide) rfl) iT_31 (inb_in hc6) rfl dX9_scheme_66 ?_
        exact J_iret (pc := 67) dX9_scheme_67
      refine J_ite (fun hq7 => ?_) (fun hq7 => ?_)
      · refine J_tblIn (pc := 23) (off := 45) (tgt := 68) dX9_scheme_23 (by rw [hq7]; decide) (by rw [hq7]; decide) (by rw [hq7]; decide) (by decide) ?_
        refine J_aload_n (pc := 68) (x := 89) dX9_scheme_68 rfl ?_
        refine J_iload_n (pc := 69) (x := x1) dX9_scheme_69 rfl ?_
        refine J_callVi (pc := 70) (t := 9) (as := [.int x1]) (st := []) (c_X9_acrossOf hG hn x1 I3) (ok_m hn 89 (by decide) rfl) (by decide) rfl (cw_RX9_148 rfl) wd_518 wd_517 rfl ⟨Nat.le_of_ble_eq_true rfl, Nat.le_of_ble_eq_true rfl, Nat.le_of_ble_eq_true rfl, Nat.le_of_ble_eq_true rfl⟩ (Nat.le_of_ble_eq_true rfl) rfl dX9_scheme_70 (fun r9 I8 => ?_)
        exact J_iret (pc := 73) dX9_scheme_73
      refine J_ite (fun hq10 => ?_) (fun hq10 => ?_)
      · refine J_tblIn (pc := 23) (off := 51) (tgt := 74) dX9_scheme_23 (by rw [hq10]; decide) (by rw [hq10]; decide) (by rw [hq10]; decide) (by decide) ?_
        refine J_aload_n (pc := 74) (x := 89) dX9_scheme_74 rfl ?_
        refine J_iload_n (pc := 75) (x := x1) dX9_scheme_75 rfl ?_
        refine J_callVi (pc := 76) (t := 9) (as := [.int x1]) (st := []) (c_X9_pagesOf hG hn x1 I3) (ok_m hn 89 (by decide) rfl) (by decide) rfl (cw_RX9_151 rfl) wd_495 wd_494 rfl ⟨Nat.le_of_ble_eq_true rfl, Nat.le_of_ble_eq_true rfl, Nat.le_of_ble_eq_true rfl, Nat.le_of_ble_eq_true rfl⟩ (Nat.le_of_ble_eq_true rfl) rfl dX9_scheme_76 (fun r12 I11 => ?_)
        refine J_iconst (pc := 79) (v := (2 : Int32)) dX9_scheme_79 (by decide) ?_
        refine J_idiv (pc := 80) dX9_scheme_80 (by decide) ?_
        refine J_aload_n (pc := 81) (x := 89) dX9_scheme_81 rfl ?_
        refine J_iload_n (pc := 82) (x := x1) dX9_scheme_82 rfl ?_
        refine J_callVi (pc := 83) (t := 9) (as := [.int x1]) (st := [.int (r12 / (2 : Int32))]) (c_X9_acrossOf hG hn x1 I11) (ok_m hn 89 (by decide) rfl) (by decide) rfl (cw_RX9_148 rfl) wd_518 wd_517 rfl ⟨Nat.le_of_ble_eq_true rfl, Nat.le_of_ble_eq_true rfl, Nat.le_of_ble_eq_true rfl, Nat.le_of_ble_eq_true rfl⟩ (Nat.le_of_ble_eq_true rfl) rfl dX9_scheme_83 (fun r14 I13 => ?_)
        refine J_ck (fun hc15 => ?_)
        refine J_idiv (pc := 86) dX9_scheme_86 (nz hc15) ?_
        exact J_iret (pc := 87) dX9_scheme_87
      refine J_ite (fun hq16 => ?_) (fun hq16 => ?_)
      · refine J_tblIn (pc := 23) (off := 65) (tgt := 88) dX9_scheme_23 (by rw [hq16]; decide) (by rw [hq16]; decide) (by rw [hq16]; decide) (by decide) ?_
        refine J_aload_n (pc := 88) (x := 89) dX9_scheme_88 rfl ?_
        refine J_iload_n (pc := 89) (x := x1) dX9_scheme_89 rfl ?_
        refine J_callVi (pc := 90) (t := 9) (as := [.int x1]) (st := []) (c_X9_pagesOf hG hn x1 I3) (ok_m hn 89 (by decide) rfl) (by decide) rfl (cw_RX9_151 rfl) wd_495 wd_494 rfl ⟨Nat.le_of_ble_eq_true rfl, Nat.le_of_ble_eq_true rfl, Nat.le_of_ble_eq_true rfl, Nat.le_of_ble_eq_true rfl⟩ (Nat.le_of_ble_eq_true rfl) rfl dX9_scheme_90 (fun r18 I17 => ?_)
        exact J_iret (pc := 93) dX9_scheme_93
      refine J_ite (fun hq19 => ?_) (fun hq19 => ?_)
      · refine J_tblIn (pc := 23) (off := 71) (tgt := 94) dX9_scheme_23 (by rw [hq19]; decide) (by rw [hq19]; decide) (by rw [hq19]; decide) (by decide) ?_
        refine J_aload_n (pc := 94) (x := 89) dX9_scheme_94 rfl ?_
        refine J_get (pc := 95) (t := 9) (k := 2) (.ref 91) (ok_m hn 89 (by decide) rfl) (by decide) rfl ingX9 (by decide) wd_467 rfl dX9_scheme_95 ?_
        refine J_iconst (pc := 98) (v := (4 : Int32)) dX9_scheme_98 (by decide) ?_
        refine J_iload_n (pc := 99) (x := x1) dX9_scheme_99 rfl ?_
        refine J_iadd (pc := 100) dX9_scheme_100 ?_
        refine J_ck (fun hc20 => ?_)
        refine J_ild (pc := 101) (t := 31) (k := (tn ((4 : Int32) + x1))) (ok_m hn 91 (by decide) rfl) iT_31 (inb_in hc20) rfl dX9_scheme_101 ?_
        exact J_iret (pc := 102) dX9_scheme_102
      refine J_tblOut (pc := 23) (tgt := 103) dX9_scheme_23 (by have e0 := ne_int hq5 (show ((0 : Int32)).toInt = 0 by decide); have e1 := ne_int hq7 (show ((1 : Int32)).toInt = 1 by decide); have e2 := ne_int hq10 (show ((2 : Int32)).toInt = 2 by decide); have e3 := ne_int hq16 (show ((3 : Int32)).toInt = 3 by decide); have e4 := ne_int hq19 (show ((4 : Int32)).toInt = 4 by decide); omega) (by decide) ?_
      refine J_aload_n (pc := 103) (x := 89) dX9_scheme_103 rfl ?_
      refine J_aload_n (pc := 104) (x := 89) dX9_scheme_104 rfl ?_
      refine J_get (pc := 105) (t := 9) (k := 2) (.ref 91) (ok_m hn 89 (by decide) rfl) (by decide) rfl ingX9 (by decide) wd_467 rfl dX9_scheme_105 ?_
      refine J_iconst (pc := 108) (v := (0 : Int32)) dX9_scheme_108 (by decide) ?_
      refine J_ild (pc := 109) (t := 31) (k := 0) (ok_m hn 91 (by decide) rfl) iT_31 (inb_in (by decide)) (by decide) dX9_scheme_109 ?_
      refine J_callVv (pc := 110) (t := 9) (as := [.int (I3 91 0)]) (st := []) (c_X9_findPlan hG hn (I3 91 0) I3) (ok_m hn 89 (by decide) rfl) (by decide) rfl (cw_RX9_154 rfl) wd_501 wd_500 rfl ⟨Nat.le_of_ble_eq_true rfl, Nat.le_of_ble_eq_true rfl, Nat.le_of_ble_eq_true rfl, Nat.le_of_ble_eq_true rfl⟩ (Nat.le_of_ble_eq_true rfl) rfl dX9_scheme_110 (fun I21 => ?_)
      refine J_aload_n (pc := 113) (x := 89) dX9_scheme_113 rfl ?_
      refine J_get (pc := 114) (t := 9) (k := 19) (.ref 102) (ok_m hn 89 (by decide) rfl) (by decide) rfl ingX9 (by decide) wd_499 rfl dX9_scheme_114 ?_
      refine J_iload_n (pc := 117) (x := x1) dX9_scheme_117 rfl ?_
      refine J_ck (fun hc22 => ?_)
      refine J_ild (pc := 118) (t := 42) (k := (tn x1)) (ok_m hn 102 (by decide) rfl) iT_42 (inb_in hc22) rfl dX9_scheme_118 ?_
      exact J_iret (pc := 119) dX9_scheme_119
abbrev mu_X9_fold (G : Gt) : Mt (Int32 × Mem) := mi G cX9_fold 3 yX9_fold.cls (some .int) 2 46
def f_X9_fold (x1 : Int32) (x2 : Int32) (I : Mem) : Option (Int32 × Mem) :=
  bI (f_X9_isScheme x1 I) fun r2 I1 => (if r2 = 0 then some ((-1 : Int32), I1) else bI (f_X9_in ((x2).toInt64) (0 : Int64) (3 : Int64) I1) fun r4 I3 => (if r4 = 0 then some ((-1 : Int32), I3) else ck (inb ((8 : Int32) + ((5 : Int32) * x1)) 132) <| (if (I3 91 (tn ((8 : Int32) + ((5 : Int32) * x1)))) ≤ x2 then some ((-4 : Int32), I3) else ck (inb ((((8 : Int32) + ((5 : Int32) * x1)) + (1 : Int32)) + x2) 132) <| some ((I3 91 (tn ((((8 : Int32) + ((5 : Int32) * x1)) + (1 : Int32)) + x2))), I3))))
set_option maxRecDepth 100000 in
theorem c_X9_fold {G : Gt} (hG : Gok G) (hn : gn G = 104) (x1 : Int32) (x2 : Int32) (I : Mem) : Cti G yX9_fold cX9_fold 3 (some .int) 2 46 [.ref 89, .int x1, .int x2] I (f_X9_fold x1 x2 I) := by
  refine Cti.of (ls := [some (.ref 89), some (.int x1), some (.int x2)]) 0 hG (by decide) rfl (Nat.le_of_ble_eq_true rfl) ?_
  unfold f_X9_fold
  refine J_aload_n (pc := 0) (x := 89) dX9_fold_0 rfl ?_
  refine J_iload_n (pc := 1) (x := x1) dX9_fold_1 rfl ?_
  refine J_callVi (pc := 2) (t := 9) (as := [.int x1]) (st := []) (c_X9_isScheme hG hn x1 I) (ok_m hn 89 (by decide) rfl) (by decide) rfl (cw_RX9_122 rfl) wd_485 wd_484 rfl ⟨Nat.le_of_ble_eq_true rfl, Nat.le_of_ble_eq_true rfl, Nat.le_of_ble_eq_true rfl, Nat.le_of_ble_eq_true rfl⟩ (Nat.le_of_ble_eq_true rfl) rfl dX9_fold_2 (fun r2 I1 => ?_)
  refine J_if_eq (pc := 5) (tgt := 20) dX9_fold_5 (by decide) ?_ ?_
  · refine J_iconst (pc := 20) (v := (-1 : Int32)) dX9_fold_20 (by decide) ?_
    exact J_iret (pc := 21) dX9_fold_21
  · refine J_iload_n (pc := 8) (x := x2) dX9_fold_8 rfl ?_
    refine J_i2l (pc := 9) dX9_fold_9 ?_
    refine J_lconst (pc := 10) (v := (0 : Int64)) dX9_fold_10 (by decide) ?_
    refine J_ldc2 (pc := 11) (v := (3 : Int64)) wd_521 dX9_fold_11 ?_
    refine J_callSi (pc := 14) (as := [.long ((x2).toInt64), .long (0 : Int64), .long (3 : Int64)]) (st := []) (c_X9_in hG hn ((x2).toInt64) (0 : Int64) (3 : Int64) I1) (cw_RX9_57 rfl) wd_425 rfl ⟨Nat.le_of_ble_eq_true rfl, Nat.le_of_ble_eq_true rfl, Nat.le_of_ble_eq_true rfl, Nat.le_of_ble_eq_true rfl⟩ (Nat.le_of_ble_eq_true rfl) rfl dX9_fold_14 (fun r4 I3 => ?_)
    refine J_if_ne (pc := 17) (tgt := 22) dX9_fold_17 (by decide) ?_ ?_
    · refine J_iconst (pc := 20) (v := (-1 : Int32)) dX9_fold_20 (by decide) ?_
      exact J_iret (pc := 21) dX9_fold_21
    · refine J_iload_n (pc := 22) (x := x2) dX9_fold_22 rfl ?_
      refine J_aload_n (pc := 23) (x := 89) dX9_fold_23 rfl ?_
      refine J_get (pc := 24) (t := 9) (k := 2) (.ref 91) (ok_m hn 89 (by decide) rfl) (by decide) rfl ingX9 (by decide) wd_467 rfl dX9_fold_24 ?_
      refine J_bipush (pc := 27) (v := (8 : Int32)) dX9_fold_27 (by decide) ?_
      refine J_iconst (pc := 29) (v := (5 : Int32)) dX9_fold_29 (by decide) ?_
      refine J_iload_n (pc := 30) (x := x1) dX9_fold_30 rfl ?_
      refine J_imul (pc := 31) dX9_fold_31 ?_
      refine J_iadd (pc := 32) dX9_fold_32 ?_
      refine J_ck (fun hc5 => ?_)
      refine J_ild (pc := 33) (t := 31) (k := (tn ((8 : Int32) + ((5 : Int32) * x1)))) (ok_m hn 91 (by decide) rfl) iT_31 (inb_in hc5) rfl dX9_fold_33 ?_
      refine J_icmp_ge (pc := 34) (tgt := 55) dX9_fold_34 (by decide) ?_ ?_
      · refine J_bipush (pc := 55) (v := (-4 : Int32)) dX9_fold_55 (by decide) ?_
        exact J_iret (pc := 57) dX9_fold_57
      · refine J_aload_n (pc := 37) (x := 89) dX9_fold_37 rfl ?_
        refine J_get (pc := 38) (t := 9) (k := 2) (.ref 91) (ok_m hn 89 (by decide) rfl) (by decide) rfl ingX9 (by decide) wd_467 rfl dX9_fold_38 ?_
        refine J_bipush (pc := 41) (v := (8 : Int32)) dX9_fold_41 (by decide) ?_
        refine J_iconst (pc := 43) (v := (5 : Int32)) dX9_fold_43 (by decide) ?_
        refine J_iload_n (pc := 44) (x := x1) dX9_fold_44 rfl ?_
        refine J_imul (pc := 45) dX9_fold_45 ?_
        refine J_iadd (pc := 46) dX9_fold_46 ?_
        refine J_iconst (pc := 47) (v := (1 : Int32)) dX9_fold_47 (by decide) ?_
        refine J_iadd (pc := 48) dX9_fold_48 ?_
        refine J_iload_n (pc := 49) (x := x2) dX9_fold_49 rfl ?_
        refine J_iadd (pc := 50) dX9_fold_50 ?_
        refine J_ck (fun hc6 => ?_)
        refine J_ild (pc := 51) (t := 31) (k := (tn ((((8 : Int32) + ((5 : Int32) * x1)) + (1 : Int32)) + x2))) (ok_m hn 91 (by decide) rfl) iT_31 (inb_in hc6) rfl dX9_fold_51 ?_
        refine J_goto (pc := 52) (tgt := 57) dX9_fold_52 (by decide) ?_
        exact J_iret (pc := 57) dX9_fold_57
abbrev mu_X9_turns (G : Gt) : Mt Mem := mv G cX9_turns 16 yX9_turns.cls 1 20
def b_X9_turns_184 (K254 : Int32 → Int32 → Int32 → Int32 → Int32 → Int32 → Int32 → Mem → Option Mem) (R : Int32 → Int32 → Int32 → Int32 → Int32 → Int32 → Int32 → Int32 → Int32 → Int32 → Int32 → Mem → Option Mem) (x1 : Int32) (x2 : Int32) (x3 : Int32) (x4 : Int32) (x5 : Int32) (x6 : Int32) (x7 : Int32) (x12 : Int32) (x13 : Int32) (x14 : Int32) (x15 : Int32) (I : Mem) : Option Mem :=
  (if x2 ≤ x15 then K254 x1 x2 x3 x4 x5 x6 x7 I else ck (inb (x13 + x15) 16) <| ck (inb (x12 + x15) 16) <| ck (inb (((x14 + x2) - (1 : Int32)) - x15) 16) <| (if x3 = 0 then ck (inb ((x12 + x2) + x15) 16) <| R x1 x2 x3 x4 x5 x6 x7 x12 x13 x14 (x15 + (1 : Int32)) (stm (stm I 96 (tn (x12 + x15)) (I 95 (tn (x13 + x15)))) 96 (tn ((x12 + x2) + x15)) (((stm I 96 (tn (x12 + x15)) (I 95 (tn (x13 + x15)))) 95 (tn (((x14 + x2) - (1 : Int32)) - x15))) ^^^ (48 : Int32))) else ck (inb ((x12 + x2) + x15) 16) <| R x1 x2 x3 x4 x5 x6 x7 x12 x13 x14 (x15 + (1 : Int32)) (stm (stm I 96 (tn (x12 + x15)) (I 95 (tn (x13 + x15)))) 96 (tn ((x12 + x2) + x15)) (((stm I 96 (tn (x12 + x15)) (I 95 (tn (x13 + x15)))) 95 (tn (((x14 + x2) - (1 : Int32)) - x15))) ^^^ (16 : Int32)))))
def l_X9_turns_184 (K254 : Int32 → Int32 → Int32 → Int32 → Int32 → Int32 → Int32 → Mem → Option Mem) : Nat → Int32 → Int32 → Int32 → Int32 → Int32 → Int32 → Int32 → Int32 → Int32 → Int32 → Int32 → Mem → Option Mem := fx (b_X9_turns_184 K254) (fun _ _ _ _ _ _ _ _ _ _ _ _ => none)
def j_X9_turns_137 (R : Int32 → Int32 → Int32 → Int32 → Int32 → Int32 → Int32 → Mem → Option Mem) (x1 : Int32) (x2 : Int32) (x3 : Int32) (x4 : Int32) (x5 : Int32) (x6 : Int32) (x7 : Int32) (x8 : Int32) (x9 : Int32) (x10 : Int32) (y0 : Int32) (I : Mem) : Option Mem :=
  l_X9_turns_184 (fun (z8 : Int32) (z9 : Int32) (z10 : Int32) (z11 : Int32) (z12 : Int32) (z13 : Int32) (z14 : Int32) I15 => R z8 z9 z10 z11 z12 z13 (z14 + (1 : Int32)) I15) fuel x1 x2 x3 x4 x5 x6 x7 (((2 : Int32) * x2) * ((x6 * x4) + x7)) (x2 * ((x9 * (I 89 11)) + x8)) (x2 * ((y0 * (I 89 11)) + x10)) (0 : Int32) I
def j_X9_turns_97 (R : Int32 → Int32 → Int32 → Int32 → Int32 → Int32 → Int32 → Mem → Option Mem) (x1 : Int32) (x2 : Int32) (x3 : Int32) (x4 : Int32) (x5 : Int32) (x6 : Int32) (x7 : Int32) (x8 : Int32) (y0 : Int32) (I : Mem) : Option Mem :=
  (if x3 = 0 then (if x3 = 0 then j_X9_turns_137 R x1 x2 x3 x4 x5 x6 x7 x8 y0 x8 (((I 89 12) - (1 : Int32)) - y0) I else j_X9_turns_137 R x1 x2 x3 x4 x5 x6 x7 x8 y0 x8 y0 I) else (if x3 = 0 then j_X9_turns_137 R x1 x2 x3 x4 x5 x6 x7 x8 y0 (((I 89 11) - (1 : Int32)) - x8) (((I 89 12) - (1 : Int32)) - y0) I else j_X9_turns_137 R x1 x2 x3 x4 x5 x6 x7 x8 y0 (((I 89 11) - (1 : Int32)) - x8) y0 I))
def b_X9_turns_56 (K260 : Int32 → Int32 → Int32 → Int32 → Int32 → Int32 → Mem → Option Mem) (R : Int32 → Int32 → Int32 → Int32 → Int32 → Int32 → Int32 → Mem → Option Mem) (x1 : Int32) (x2 : Int32) (x3 : Int32) (x4 : Int32) (x5 : Int32) (x6 : Int32) (x7 : Int32) (I : Mem) : Option Mem :=
  (if x4 ≤ x7 then K260 x1 x2 x3 x4 x5 x6 I else (if x1 = (108 : Int32) then (if x1 = (116 : Int32) then j_X9_turns_97 R x1 x2 x3 x4 x5 x6 x7 (x7 + x4) (x6 + x5) I else j_X9_turns_97 R x1 x2 x3 x4 x5 x6 x7 (x7 + x4) x6 I) else (if x1 = (116 : Int32) then j_X9_turns_97 R x1 x2 x3 x4 x5 x6 x7 x7 (x6 + x5) I else j_X9_turns_97 R x1 x2 x3 x4 x5 x6 x7 x7 x6 I)))
def l_X9_turns_56 (K260 : Int32 → Int32 → Int32 → Int32 → Int32 → Int32 → Mem → Option Mem) : Nat → Int32 → Int32 → Int32 → Int32 → Int32 → Int32 → Int32 → Mem → Option Mem := fx (b_X9_turns_56 K260) (fun _ _ _ _ _ _ _ _ => none)
def b_X9_turns_46 (K266 : Int32 → Int32 → Mem → Option Mem) (R : Int32 → Int32 → Int32 → Int32 → Int32 → Int32 → Mem → Option Mem) (x1 : Int32) (x2 : Int32) (x3 : Int32) (x4 : Int32) (x5 : Int32) (x6 : Int32) (I : Mem) : Option Mem :=
  (if x5 ≤ x6 then K266 x4 x5 I else l_X9_turns_56 (fun (z16 : Int32) (z17 : Int32) (z18 : Int32) (z19 : Int32) (z20 : Int32) (z21 : Int32) I22 => R z16 z17 z18 z19 z20 (z21 + (1 : Int32)) I22) fuel x1 x2 x3 x4 x5 x6 (0 : Int32) I)
def l_X9_turns_46 (K266 : Int32 → Int32 → Mem → Option Mem) : Nat → Int32 → Int32 → Int32 → Int32 → Int32 → Int32 → Mem → Option Mem := fx (b_X9_turns_46 K266) (fun _ _ _ _ _ _ _ => none)
def b_X9_turns_269 (K296 : Int32 → Int32 → Mem → Option Mem) (R : Int32 → Int32 → Int32 → Mem → Option Mem) (x4 : Int32) (x5 : Int32) (x6 : Int32) (I : Mem) : Option Mem :=
  (if (16 : Int32) ≤ x6 then K296 x4 x5 I else ck (inb x6 16) <| ck (inb x6 16) <| R x4 x5 (x6 + (1 : Int32)) (stm I 95 (tn x6) (I 96 (tn x6))))
def l_X9_turns_269 (K296 : Int32 → Int32 → Mem → Option Mem) : Nat → Int32 → Int32 → Int32 → Mem → Option Mem := fx (b_X9_turns_269 K296) (fun _ _ _ _ => none)
def j_X9_turns_22 (x1 : Int32) (x2 : Int32) (x3 : Int32) (y0 : Int32) (I : Mem) : Option Mem :=
  (if x3 = 0 then l_X9_turns_46 (fun (z23 : Int32) (z24 : Int32) I25 => l_X9_turns_269 (fun (z28 : Int32) (z29 : Int32) I30 => some (stm (stm I30 89 11 z28) 89 12 z29)) fuel z23 z24 (0 : Int32) I25) fuel x1 x2 x3 y0 ((I 89 12) / (2 : Int32)) (0 : Int32) I else l_X9_turns_46 (fun (z31 : Int32) (z32 : Int32) I33 => l_X9_turns_269 (fun (z34 : Int32) (z35 : Int32) I36 => some (stm (stm I36 89 11 z34) 89 12 z35)) fuel z31 z32 (0 : Int32) I33) fuel x1 x2 x3 y0 (I 89 12) (0 : Int32) I)
def f_X9_turns (x1 : Int32) (x2 : Int32) (I : Mem) : Option Mem :=
  bI (f_X9_isSide x1 I) fun r2 I1 => (if r2 = 0 then j_X9_turns_22 x1 x2 r2 (I1 89 11) I1 else j_X9_turns_22 x1 x2 r2 ((I1 89 11) / (2 : Int32)) I1)
set_option maxRecDepth 100000 in
theorem tb_X9_turns_184 {G : Gt} (hG : Gok G) (hn : gn G = 104) {K254 : Int32 → Int32 → Int32 → Int32 → Int32 → Int32 → Int32 → Mem → Option Mem} (hK254 : ∀ (x1 : Int32) (x2 : Int32) (x3 : Int32) (x4 : Int32) (x5 : Int32) (x6 : Int32) (x7 : Int32) (I : Mem), J G (mu_X9_turns G) 254 [some (.ref 89), some (.int x1), some (.int x2), some (.int x3), some (.int x4), some (.int x5), some (.int x6), some (.int x7), none, none, none, none, none, none, none, none] [] I (K254 x1 x2 x3 x4 x5 x6 x7 I)) {R : Int32 → Int32 → Int32 → Int32 → Int32 → Int32 → Int32 → Int32 → Int32 → Int32 → Int32 → Mem → Option Mem} (hR : ∀ (x1 : Int32) (x2 : Int32) (x3 : Int32) (x4 : Int32) (x5 : Int32) (x6 : Int32) (x7 : Int32) (x12 : Int32) (x13 : Int32) (x14 : Int32) (x15 : Int32) (I : Mem), J G (mu_X9_turns G) 184 [some (.ref 89), some (.int x1), some (.int x2), some (.int x3), some (.int x4), some (.int x5), some (.int x6), some (.int x7), none, none, none, none, some (.int x12), some (.int x13), some (.int x14), some (.int x15)] [] I (R x1 x2 x3 x4 x5 x6 x7 x12 x13 x14 x15 I)) (x1 : Int32) (x2 : Int32) (x3 : Int32) (x4 : Int32) (x5 : Int32) (x6 : Int32) (x7 : Int32) (x12 : Int32) (x13 : Int32) (x14 : Int32) (x15 : Int32) (I : Mem) : J G (mu_X9_turns G) 184 [some (.ref 89), some (.int x1), some (.int x2), some (.int x3), some (.int x4), some (.int x5), some (.int x6), some (.int x7), none, none, none, none, some (.int x12), some (.int x13), some (.int x14), some (.int x15)] [] I (b_X9_turns_184 K254 R x1 x2 x3 x4 x5 x6 x7 x12 x13 x14 x15 I) := by
  unfold b_X9_turns_184
  refine J_iload (pc := 184) (x := x15) dX9_turns_184 rfl ?_
  refine J_iload_n (pc := 186) (x := x2) dX9_turns_186 rfl ?_
  refine J_icmp_ge (pc := 187) (tgt := 254) dX9_turns_187 (by decide) ?_ ?_
  · refine J_weak (ls' := [some (.ref 89), some (.int x1), some (.int x2), some (.int x3), some (.int x4), some (.int x5), some (.int x6), some (.int x7), none, none, none, none, none, none, none, none]) ⟨rfl, rfl, rfl, rfl, rfl, rfl, rfl, rfl, trivial⟩ ?_
    exact hK254 x1 x2 x3 x4 x5 x6 x7 I
  · refine J_aload_n (pc := 190) (x := 89) dX9_turns_190 rfl ?_
    refine J_get (pc := 191) (t := 9) (k := 10) (.ref 96) (ok_m hn 89 (by decide) rfl) (by decide) rfl ingX9 (by decide) wd_528 rfl dX9_turns_191 ?_
    refine J_iload (pc := 194) (x := x12) dX9_turns_194 rfl ?_
    refine J_iload (pc := 196) (x := x15) dX9_turns_196 rfl ?_
    refine J_iadd (pc := 198) dX9_turns_198 ?_
    refine J_aload_n (pc := 199) (x := 89) dX9_turns_199 rfl ?_
    refine J_get (pc := 200) (t := 9) (k := 9) (.ref 95) (ok_m hn 89 (by decide) rfl) (by decide) rfl ingX9 (by decide) wd_527 rfl dX9_turns_200 ?_
    refine J_iload (pc := 203) (x := x13) dX9_turns_203 rfl ?_
    refine J_iload (pc := 205) (x := x15) dX9_turns_205 rfl ?_
    refine J_iadd (pc := 207) dX9_turns_207 ?_
    refine J_ck (fun hc3 => ?_)
    refine J_ild (pc := 208) (t := 35) (k := (tn (x13 + x15))) (ok_m hn 95 (by decide) rfl) iT_35 (inb_in hc3) rfl dX9_turns_208 ?_
    refine J_ck (fun hc4 => ?_)
    refine J_ist (pc := 209) (t := 36) (k := (tn (x12 + x15))) (ok_m hn 96 (by decide) rfl) iT_36 (inb_in hc4) rfl dX9_turns_209 ?_
    refine J_aload_n (pc := 210) (x := 89) dX9_turns_210 rfl ?_
    refine J_get (pc := 211) (t := 9) (k := 10) (.ref 96) (ok_m hn 89 (by decide) rfl) (by decide) rfl ingX9 (by decide) wd_528 rfl dX9_turns_211 ?_
    refine J_iload (pc := 214) (x := x12) dX9_turns_214 rfl ?_
    refine J_iload_n (pc := 216) (x := x2) dX9_turns_216 rfl ?_
    refine J_iadd (pc := 217) dX9_turns_217 ?_
    refine J_iload (pc := 218) (x := x15) dX9_turns_218 rfl ?_
    refine J_iadd (pc := 220) dX9_turns_220 ?_
    refine J_aload_n (pc := 221) (x := 89) dX9_turns_221 rfl ?_
    refine J_get (pc := 222) (t := 9) (k := 9) (.ref 95) (ok_m hn 89 (by decide) rfl) (by decide) rfl ingX9 (by decide) wd_527 rfl dX9_turns_222 ?_
    refine J_iload (pc := 225) (x := x14) dX9_turns_225 rfl ?_
    refine J_iload_n (pc := 227) (x := x2) dX9_turns_227 rfl ?_
    refine J_iadd (pc := 228) dX9_turns_228 ?_
    refine J_iconst (pc := 229) (v := (1 : Int32)) dX9_turns_229 (by decide) ?_
    refine J_isub (pc := 230) dX9_turns_230 ?_
    refine J_iload (pc := 231) (x := x15) dX9_turns_231 rfl ?_
    refine J_isub (pc := 233) dX9_turns_233 ?_
    refine J_ck (fun hc5 => ?_)
    refine J_ild (pc := 234) (t := 35) (k := (tn (((x14 + x2) - (1 : Int32)) - x15))) (ok_m hn 95 (by decide) rfl) iT_35 (inb_in hc5) rfl dX9_turns_234 ?_
    refine J_iload_n (pc := 235) (x := x3) dX9_turns_235 rfl ?_
    refine J_if_eq (pc := 236) (tgt := 244) dX9_turns_236 (by decide) ?_ ?_
    · refine J_bipush (pc := 244) (v := (48 : Int32)) dX9_turns_244 (by decide) ?_
      refine J_ixor (pc := 246) dX9_turns_246 ?_
      refine J_ck (fun hc6 => ?_)
      refine J_ist (pc := 247) (t := 36) (k := (tn ((x12 + x2) + x15))) (ok_m hn 96 (by decide) rfl) iT_36 (inb_in hc6) rfl dX9_turns_247 ?_
      refine J_iinc (pc := 248) (d := (1 : Int32)) (ls' := [some (.ref 89), some (.int x1), some (.int x2), some (.int x3), some (.int x4), some (.int x5), some (.int x6), some (.int x7), none, none, none, none, some (.int x12), some (.int x13), some (.int x14), some (.int (x15 + (1 : Int32)))]) dX9_turns_248 (by decide) rfl (Nat.le_of_ble_eq_true rfl) rfl rfl ?_
      refine J_goto (pc := 251) (tgt := 184) dX9_turns_251 (by decide) ?_
      exact hR x1 x2 x3 x4 x5 x6 x7 x12 x13 x14 (x15 + (1 : Int32)) (stm (stm I 96 (tn (x12 + x15)) (I 95 (tn (x13 + x15)))) 96 (tn ((x12 + x2) + x15)) (((stm I 96 (tn (x12 + x15)) (I 95 (tn (x13 + x15)))) 95 (tn (((x14 + x2) - (1 : Int32)) - x15))) ^^^ (48 : Int32)))
    · refine J_bipush (pc := 239) (v := (16 : Int32)) dX9_turns_239 (by decide) ?_
      refine J_goto (pc := 241) (tgt := 246) dX9_turns_241 (by decide) ?_
      refine J_ixor (pc := 246) dX9_turns_246 ?_
      refine J_ck (fun hc7 => ?_)
      refine J_ist (pc := 247) (t := 36) (k := (tn ((x12 + x2) + x15))) (ok_m hn 96 (by decide) rfl) iT_36 (inb_in hc7) rfl dX9_turns_247 ?_
      refine J_iinc (pc := 248) (d := (1 : Int32)) (ls' := [some (.ref 89), some (.int x1), some (.int x2), some (.int x3), some (.int x4), some (.int x5), some (.int x6), some (.int x7), none, none, none, none, some (.int x12), some (.int x13), some (.int x14), some (.int (x15 + (1 : Int32)))]) dX9_turns_248 (by decide) rfl (Nat.le_of_ble_eq_true rfl) rfl rfl ?_
      refine J_goto (pc := 251) (tgt := 184) dX9_turns_251 (by decide) ?_
      exact hR x1 x2 x3 x4 x5 x6 x7 x12 x13 x14 (x15 + (1 : Int32)) (stm (stm I 96 (tn (x12 + x15)) (I 95 (tn (x13 + x15)))) 96 (tn ((x12 + x2) + x15)) (((stm I 96 (tn (x12 + x15)) (I 95 (tn (x13 + x15)))) 95 (tn (((x14 + x2) - (1 : Int32)) - x15))) ^^^ (16 : Int32)))
theorem tl_X9_turns_184 {G : Gt} (hG : Gok G) (hn : gn G = 104) {K254 : Int32 → Int32 → Int32 → Int32 → Int32 → Int32 → Int32 → Mem → Option Mem} (hK254 : ∀ (x1 : Int32) (x2 : Int32) (x3 : Int32) (x4 : Int32) (x5 : Int32) (x6 : Int32) (x7 : Int32) (I : Mem), J G (mu_X9_turns G) 254 [some (.ref 89), some (.int x1), some (.int x2), some (.int x3), some (.int x4), some (.int x5), some (.int x6), some (.int x7), none, none, none, none, none, none, none, none] [] I (K254 x1 x2 x3 x4 x5 x6 x7 I)) (n : Nat) : ∀ (x1 : Int32) (x2 : Int32) (x3 : Int32) (x4 : Int32) (x5 : Int32) (x6 : Int32) (x7 : Int32) (x12 : Int32) (x13 : Int32) (x14 : Int32) (x15 : Int32) (I : Mem), J G (mu_X9_turns G) 184 [some (.ref 89), some (.int x1), some (.int x2), some (.int x3), some (.int x4), some (.int x5), some (.int x6), some (.int x7), none, none, none, none, some (.int x12), some (.int x13), some (.int x14), some (.int x15)] [] I (l_X9_turns_184 K254 n x1 x2 x3 x4 x5 x6 x7 x12 x13 x14 x15 I) := by
  induction n with
  | zero => intro x1 x2 x3 x4 x5 x6 x7 x12 x13 x14 x15 I; exact J_none
  | succ n ih => intro x1 x2 x3 x4 x5 x6 x7 x12 x13 x14 x15 I; exact tb_X9_turns_184 hG hn hK254 ih x1 x2 x3 x4 x5 x6 x7 x12 x13 x14 x15 I
set_option maxRecDepth 100000 in
theorem tj_X9_turns_137 {G : Gt} (hG : Gok G) (hn : gn G = 104) {R : Int32 → Int32 → Int32 → Int32 → Int32 → Int32 → Int32 → Mem → Option Mem} (hR : ∀ (x1 : Int32) (x2 : Int32) (x3 : Int32) (x4 : Int32) (x5 : Int32) (x6 : Int32) (x7 : Int32) (I : Mem), J G (mu_X9_turns G) 56 [some (.ref 89), some (.int x1), some (.int x2), some (.int x3), some (.int x4), some (.int x5), some (.int x6), some (.int x7), none, none, none, none, none, none, none, none] [] I (R x1 x2 x3 x4 x5 x6 x7 I)) (x1 : Int32) (x2 : Int32) (x3 : Int32) (x4 : Int32) (x5 : Int32) (x6 : Int32) (x7 : Int32) (x8 : Int32) (x9 : Int32) (x10 : Int32) (y0 : Int32) (I : Mem) : J G (mu_X9_turns G) 137 [some (.ref 89), some (.int x1), some (.int x2), some (.int x3), some (.int x4), some (.int x5), some (.int x6), some (.int x7), some (.int x8), some (.int x9), some (.int x10), none, none, none, none, none] [.int y0] I (j_X9_turns_137 R x1 x2 x3 x4 x5 x6 x7 x8 x9 x10 y0 I) := by
  unfold j_X9_turns_137
  refine J_istore (pc := 137) (ls' := [some (.ref 89), some (.int x1), some (.int x2), some (.int x3), some (.int x4), some (.int x5), some (.int x6), some (.int x7), some (.int x8), some (.int x9), some (.int x10), some (.int y0), none, none, none, none]) dX9_turns_137 (Nat.le_of_ble_eq_true rfl) rfl rfl ?_
  refine J_iconst (pc := 139) (v := (2 : Int32)) dX9_turns_139 (by decide) ?_
  refine J_iload_n (pc := 140) (x := x2) dX9_turns_140 rfl ?_
  refine J_imul (pc := 141) dX9_turns_141 ?_
  refine J_iload (pc := 142) (x := x6) dX9_turns_142 rfl ?_
  refine J_iload (pc := 144) (x := x4) dX9_turns_144 rfl ?_
  refine J_imul (pc := 146) dX9_turns_146 ?_
  refine J_iload (pc := 147) (x := x7) dX9_turns_147 rfl ?_
  refine J_iadd (pc := 149) dX9_turns_149 ?_
  refine J_imul (pc := 150) dX9_turns_150 ?_
  refine J_istore (pc := 151) (ls' := [some (.ref 89), some (.int x1), some (.int x2), some (.int x3), some (.int x4), some (.int x5), some (.int x6), some (.int x7), some (.int x8), some (.int x9), some (.int x10), some (.int y0), some (.int (((2 : Int32) * x2) * ((x6 * x4) + x7))), none, none, none]) dX9_turns_151 (Nat.le_of_ble_eq_true rfl) rfl rfl ?_
  refine J_iload_n (pc := 153) (x := x2) dX9_turns_153 rfl ?_
  refine J_iload (pc := 154) (x := x9) dX9_turns_154 rfl ?_
  refine J_aload_n (pc := 156) (x := 89) dX9_turns_156 rfl ?_
  refine J_get (pc := 157) (t := 9) (k := 11) (.int (I 89 11)) (ok_m hn 89 (by decide) rfl) (by decide) rfl ingX9 (by decide) wd_524 rfl dX9_turns_157 ?_
  refine J_imul (pc := 160) dX9_turns_160 ?_
  refine J_iload (pc := 161) (x := x8) dX9_turns_161 rfl ?_
  refine J_iadd (pc := 163) dX9_turns_163 ?_
  refine J_imul (pc := 164) dX9_turns_164 ?_
  refine J_istore (pc := 165) (ls' := [some (.ref 89), some (.int x1), some (.int x2), some (.int x3), some (.int x4), some (.int x5), some (.int x6), some (.int x7), some (.int x8), some (.int x9), some (.int x10), some (.int y0), some (.int (((2 : Int32) * x2) * ((x6 * x4) + x7))), some (.int (x2 * ((x9 * (I 89 11)) + x8))), none, none]) dX9_turns_165 (Nat.le_of_ble_eq_true rfl) rfl rfl ?_
  refine J_iload_n (pc := 167) (x := x2) dX9_turns_167 rfl ?_
  refine J_iload (pc := 168) (x := y0) dX9_turns_168 rfl ?_
  refine J_aload_n (pc := 170) (x := 89) dX9_turns_170 rfl ?_
  refine J_get (pc := 171) (t := 9) (k := 11) (.int (I 89 11)) (ok_m hn 89 (by decide) rfl) (by decide) rfl ingX9 (by decide) wd_524 rfl dX9_turns_171 ?_
  refine J_imul (pc := 174) dX9_turns_174 ?_
  refine J_iload (pc := 175) (x := x10) dX9_turns_175 rfl ?_
  refine J_iadd (pc := 177) dX9_turns_177 ?_
  refine J_imul (pc := 178) dX9_turns_178 ?_
  refine J_istore (pc := 179) (ls' := [some (.ref 89), some (.int x1), some (.int x2), some (.int x3), some (.int x4), some (.int x5), some (.int x6), some (.int x7), some (.int x8), some (.int x9), some (.int x10), some (.int y0), some (.int (((2 : Int32) * x2) * ((x6 * x4) + x7))), some (.int (x2 * ((x9 * (I 89 11)) + x8))), some (.int (x2 * ((y0 * (I 89 11)) + x10))), none]) dX9_turns_179 (Nat.le_of_ble_eq_true rfl) rfl rfl ?_
  refine J_iconst (pc := 181) (v := (0 : Int32)) dX9_turns_181 (by decide) ?_
  refine J_istore (pc := 182) (ls' := [some (.ref 89), some (.int x1), some (.int x2), some (.int x3), some (.int x4), some (.int x5), some (.int x6), some (.int x7), some (.int x8), some (.int x9), some (.int x10), some (.int y0), some (.int (((2 : Int32) * x2) * ((x6 * x4) + x7))), some (.int (x2 * ((x9 * (I 89 11)) + x8))), some (.int (x2 * ((y0 * (I 89 11)) + x10))), some (.int (0 : Int32))]) dX9_turns_182 (Nat.le_of_ble_eq_true rfl) rfl rfl ?_
  refine J_weak (ls' := [some (.ref 89), some (.int x1), some (.int x2), some (.int x3), some (.int x4), some (.int x5), some (.int x6), some (.int x7), none, none, none, none, some (.int (((2 : Int32) * x2) * ((x6 * x4) + x7))), some (.int (x2 * ((x9 * (I 89 11)) + x8))), some (.int (x2 * ((y0 * (I 89 11)) + x10))), some (.int (0 : Int32))]) ⟨rfl, rfl, rfl, rfl, rfl, rfl, rfl, rfl, rfl, rfl, rfl, rfl, trivial⟩ ?_
  refine tl_X9_turns_184 hG hn (fun z8 z9 z10 z11 z12 z13 z14 I15 => ?_) fuel x1 x2 x3 x4 x5 x6 x7 (((2 : Int32) * x2) * ((x6 * x4) + x7)) (x2 * ((x9 * (I 89 11)) + x8)) (x2 * ((y0 * (I 89 11)) + x10)) (0 : Int32) I
  · refine J_iinc (pc := 254) (d := (1 : Int32)) (ls' := [some (.ref 89), some (.int z8), some (.int z9), some (.int z10), some (.int z11), some (.int z12), some (.int z13), some (.int (z14 + (1 : Int32))), none, none, none, none, none, none, none, none]) dX9_turns_254 (by decide) rfl (Nat.le_of_ble_eq_true rfl) rfl rfl ?_
    refine J_goto (pc := 257) (tgt := 56) dX9_turns_257 (by decide) ?_
    exact hR z8 z9 z10 z11 z12 z13 (z14 + (1 : Int32)) I15
set_option maxRecDepth 100000 in
theorem tj_X9_turns_97 {G : Gt} (hG : Gok G) (hn : gn G = 104) {R : Int32 → Int32 → Int32 → Int32 → Int32 → Int32 → Int32 → Mem → Option Mem} (hR : ∀ (x1 : Int32) (x2 : Int32) (x3 : Int32) (x4 : Int32) (x5 : Int32) (x6 : Int32) (x7 : Int32) (I : Mem), J G (mu_X9_turns G) 56 [some (.ref 89), some (.int x1), some (.int x2), some (.int x3), some (.int x4), some (.int x5), some (.int x6), some (.int x7), none, none, none, none, none, none, none, none] [] I (R x1 x2 x3 x4 x5 x6 x7 I)) (x1 : Int32) (x2 : Int32) (x3 : Int32) (x4 : Int32) (x5 : Int32) (x6 : Int32) (x7 : Int32) (x8 : Int32) (y0 : Int32) (I : Mem) : J G (mu_X9_turns G) 97 [some (.ref 89), some (.int x1), some (.int x2), some (.int x3), some (.int x4), some (.int x5), some (.int x6), some (.int x7), some (.int x8), none, none, none, none, none, none, none] [.int y0] I (j_X9_turns_97 R x1 x2 x3 x4 x5 x6 x7 x8 y0 I) := by
  unfold j_X9_turns_97
  refine J_istore (pc := 97) (ls' := [some (.ref 89), some (.int x1), some (.int x2), some (.int x3), some (.int x4), some (.int x5), some (.int x6), some (.int x7), some (.int x8), some (.int y0), none, none, none, none, none, none]) dX9_turns_97 (Nat.le_of_ble_eq_true rfl) rfl rfl ?_
  refine J_iload_n (pc := 99) (x := x3) dX9_turns_99 rfl ?_
  refine J_if_eq (pc := 100) (tgt := 115) dX9_turns_100 (by decide) ?_ ?_
  · refine J_iload (pc := 115) (x := x8) dX9_turns_115 rfl ?_
    refine J_istore (pc := 117) (ls' := [some (.ref 89), some (.int x1), some (.int x2), some (.int x3), some (.int x4), some (.int x5), some (.int x6), some (.int x7), some (.int x8), some (.int y0), some (.int x8), none, none, none, none, none]) dX9_turns_117 (Nat.le_of_ble_eq_true rfl) rfl rfl ?_
    refine J_iload_n (pc := 119) (x := x3) dX9_turns_119 rfl ?_
    refine J_if_eq (pc := 120) (tgt := 128) dX9_turns_120 (by decide) ?_ ?_
    · refine J_aload_n (pc := 128) (x := 89) dX9_turns_128 rfl ?_
      refine J_get (pc := 129) (t := 9) (k := 12) (.int (I 89 12)) (ok_m hn 89 (by decide) rfl) (by decide) rfl ingX9 (by decide) wd_525 rfl dX9_turns_129 ?_
      refine J_iconst (pc := 132) (v := (1 : Int32)) dX9_turns_132 (by decide) ?_
      refine J_isub (pc := 133) dX9_turns_133 ?_
      refine J_iload (pc := 134) (x := y0) dX9_turns_134 rfl ?_
      refine J_isub (pc := 136) dX9_turns_136 ?_
      exact tj_X9_turns_137 hG hn hR x1 x2 x3 x4 x5 x6 x7 x8 y0 x8 (((I 89 12) - (1 : Int32)) - y0) I
    · refine J_iload (pc := 123) (x := y0) dX9_turns_123 rfl ?_
      refine J_goto (pc := 125) (tgt := 137) dX9_turns_125 (by decide) ?_
      exact tj_X9_turns_137 hG hn hR x1 x2 x3 x4 x5 x6 x7 x8 y0 x8 y0 I
  · refine J_aload_n (pc := 103) (x := 89) dX9_turns_103 rfl ?_
    refine J_get (pc := 104) (t := 9) (k := 11) (.int (I 89 11)) (ok_m hn 89 (by decide) rfl) (by decide) rfl ingX9 (by decide) wd_524 rfl dX9_turns_104 ?_
    refine J_iconst (pc := 107) (v := (1 : Int32)) dX9_turns_107 (by decide) ?_
    refine J_isub (pc := 108) dX9_turns_108 ?_
    refine J_iload (pc := 109) (x := x8) dX9_turns_109 rfl ?_
    refine J_isub (pc := 111) dX9_turns_111 ?_
    refine J_goto (pc := 112) (tgt := 117) dX9_turns_112 (by decide) ?_
    refine J_istore (pc := 117) (ls' := [some (.ref 89), some (.int x1), some (.int x2), some (.int x3), some (.int x4), some (.int x5), some (.int x6), some (.int x7), some (.int x8), some (.int y0), some (.int (((I 89 11) - (1 : Int32)) - x8)), none, none, none, none, none]) dX9_turns_117 (Nat.le_of_ble_eq_true rfl) rfl rfl ?_
    refine J_iload_n (pc := 119) (x := x3) dX9_turns_119 rfl ?_
    refine J_if_eq (pc := 120) (tgt := 128) dX9_turns_120 (by decide) ?_ ?_
    · refine J_aload_n (pc := 128) (x := 89) dX9_turns_128 rfl ?_
      refine J_get (pc := 129) (t := 9) (k := 12) (.int (I 89 12)) (ok_m hn 89 (by decide) rfl) (by decide) rfl ingX9 (by decide) wd_525 rfl dX9_turns_129 ?_
      refine J_iconst (pc := 132) (v := (1 : Int32)) dX9_turns_132 (by decide) ?_
      refine J_isub (pc := 133) dX9_turns_133 ?_
      refine J_iload (pc := 134) (x := y0) dX9_turns_134 rfl ?_
      refine J_isub (pc := 136) dX9_turns_136 ?_
      exact tj_X9_turns_137 hG hn hR x1 x2 x3 x4 x5 x6 x7 x8 y0 (((I 89 11) - (1 : Int32)) - x8) (((I 89 12) - (1 : Int32)) - y0) I
    · refine J_iload (pc := 123) (x := y0) dX9_turns_123 rfl ?_
      refine J_goto (pc := 125) (tgt := 137) dX9_turns_125 (by decide) ?_
      exact tj_X9_turns_137 hG hn hR x1 x2 x3 x4 x5 x6 x7 x8 y0 (((I 89 11) - (1 : Int32)) - x8) y0 I
set_option maxRecDepth 100000 in
theorem tb_X9_turns_56 {G : Gt} (hG : Gok G) (hn : gn G = 104) {K260 : Int32 → Int32 → Int32 → Int32 → Int32 → Int32 → Mem → Option Mem} (hK260 : ∀ (x1 : Int32) (x2 : Int32) (x3 : Int32) (x4 : Int32) (x5 : Int32) (x6 : Int32) (I : Mem), J G (mu_X9_turns G) 260 [some (.ref 89), some (.int x1), some (.int x2), some (.int x3), some (.int x4), some (.int x5), some (.int x6), none, none, none, none, none, none, none, none, none] [] I (K260 x1 x2 x3 x4 x5 x6 I)) {R : Int32 → Int32 → Int32 → Int32 → Int32 → Int32 → Int32 → Mem → Option Mem} (hR : ∀ (x1 : Int32) (x2 : Int32) (x3 : Int32) (x4 : Int32) (x5 : Int32) (x6 : Int32) (x7 : Int32) (I : Mem), J G (mu_X9_turns G) 56 [some (.ref 89), some (.int x1), some (.int x2), some (.int x3), some (.int x4), some (.int x5), some (.int x6), some (.int x7), none, none, none, none, none, none, none, none] [] I (R x1 x2 x3 x4 x5 x6 x7 I)) (x1 : Int32) (x2 : Int32) (x3 : Int32) (x4 : Int32) (x5 : Int32) (x6 : Int32) (x7 : Int32) (I : Mem) : J G (mu_X9_turns G) 56 [some (.ref 89), some (.int x1), some (.int x2), some (.int x3), some (.int x4), some (.int x5), some (.int x6), some (.int x7), none, none, none, none, none, none, none, none] [] I (b_X9_turns_56 K260 R x1 x2 x3 x4 x5 x6 x7 I) := by
  unfold b_X9_turns_56
  refine J_iload (pc := 56) (x := x7) dX9_turns_56 rfl ?_
  refine J_iload (pc := 58) (x := x4) dX9_turns_58 rfl ?_
  refine J_icmp_ge (pc := 60) (tgt := 260) dX9_turns_60 (by decide) ?_ ?_
  · refine J_weak (ls' := [some (.ref 89), some (.int x1), some (.int x2), some (.int x3), some (.int x4), some (.int x5), some (.int x6), none, none, none, none, none, none, none, none, none]) ⟨rfl, rfl, rfl, rfl, rfl, rfl, rfl, trivial⟩ ?_
    exact hK260 x1 x2 x3 x4 x5 x6 I
  · refine J_iload_n (pc := 63) (x := x1) dX9_turns_63 rfl ?_
    refine J_bipush (pc := 64) (v := (108 : Int32)) dX9_turns_64 (by decide) ?_
    refine J_icmp_ne (pc := 66) (tgt := 77) dX9_turns_66 (by decide) ?_ ?_
    · refine J_iload (pc := 69) (x := x7) dX9_turns_69 rfl ?_
      refine J_iload (pc := 71) (x := x4) dX9_turns_71 rfl ?_
      refine J_iadd (pc := 73) dX9_turns_73 ?_
      refine J_goto (pc := 74) (tgt := 79) dX9_turns_74 (by decide) ?_
      refine J_istore (pc := 79) (ls' := [some (.ref 89), some (.int x1), some (.int x2), some (.int x3), some (.int x4), some (.int x5), some (.int x6), some (.int x7), some (.int (x7 + x4)), none, none, none, none, none, none, none]) dX9_turns_79 (Nat.le_of_ble_eq_true rfl) rfl rfl ?_
      refine J_iload_n (pc := 81) (x := x1) dX9_turns_81 rfl ?_
      refine J_bipush (pc := 82) (v := (116 : Int32)) dX9_turns_82 (by decide) ?_
      refine J_icmp_ne (pc := 84) (tgt := 95) dX9_turns_84 (by decide) ?_ ?_
      · refine J_iload (pc := 87) (x := x6) dX9_turns_87 rfl ?_
        refine J_iload (pc := 89) (x := x5) dX9_turns_89 rfl ?_
        refine J_iadd (pc := 91) dX9_turns_91 ?_
        refine J_goto (pc := 92) (tgt := 97) dX9_turns_92 (by decide) ?_
        exact tj_X9_turns_97 hG hn hR x1 x2 x3 x4 x5 x6 x7 (x7 + x4) (x6 + x5) I
      · refine J_iload (pc := 95) (x := x6) dX9_turns_95 rfl ?_
        exact tj_X9_turns_97 hG hn hR x1 x2 x3 x4 x5 x6 x7 (x7 + x4) x6 I
    · refine J_iload (pc := 77) (x := x7) dX9_turns_77 rfl ?_
      refine J_istore (pc := 79) (ls' := [some (.ref 89), some (.int x1), some (.int x2), some (.int x3), some (.int x4), some (.int x5), some (.int x6), some (.int x7), some (.int x7), none, none, none, none, none, none, none]) dX9_turns_79 (Nat.le_of_ble_eq_true rfl) rfl rfl ?_
      refine J_iload_n (pc := 81) (x := x1) dX9_turns_81 rfl ?_
      refine J_bipush (pc := 82) (v := (116 : Int32)) dX9_turns_82 (by decide) ?_
      refine J_icmp_ne (pc := 84) (tgt := 95) dX9_turns_84 (by decide) ?_ ?_
      · refine J_iload (pc := 87) (x := x6) dX9_turns_87 rfl ?_
        refine J_iload (pc := 89) (x := x5) dX9_turns_89 rfl ?_
        refine J_iadd (pc := 91) dX9_turns_91 ?_
        refine J_goto (pc := 92) (tgt := 97) dX9_turns_92 (by decide) ?_
        exact tj_X9_turns_97 hG hn hR x1 x2 x3 x4 x5 x6 x7 x7 (x6 + x5) I
      · refine J_iload (pc := 95) (x := x6) dX9_turns_95 rfl ?_
        exact tj_X9_turns_97 hG hn hR x1 x2 x3 x4 x5 x6 x7 x7 x6 I
theorem tl_X9_turns_56 {G : Gt} (hG : Gok G) (hn : gn G = 104) {K260 : Int32 → Int32 → Int32 → Int32 → Int32 → Int32 → Mem → Option Mem} (hK260 : ∀ (x1 : Int32) (x2 : Int32) (x3 : Int32) (x4 : Int32) (x5 : Int32) (x6 : Int32) (I : Mem), J G (mu_X9_turns G) 260 [some (.ref 89), some (.int x1), some (.int x2), some (.int x3), some (.int x4), some (.int x5), some (.int x6), none, none, none, none, none, none, none, none, none] [] I (K260 x1 x2 x3 x4 x5 x6 I)) (n : Nat) : ∀ (x1 : Int32) (x2 : Int32) (x3 : Int32) (x4 : Int32) (x5 : Int32) (x6 : Int32) (x7 : Int32) (I : Mem), J G (mu_X9_turns G) 56 [some (.ref 89), some (.int x1), some (.int x2), some (.int x3), some (.int x4), some (.int x5), some (.int x6), some (.int x7), none, none, none, none, none, none, none, none] [] I (l_X9_turns_56 K260 n x1 x2 x3 x4 x5 x6 x7 I) := by
  induction n with
  | zero => intro x1 x2 x3 x4 x5 x6 x7 I; exact J_none
  | succ n ih => intro x1 x2 x3 x4 x5 x6 x7 I; exact tb_X9_turns_56 hG hn hK260 ih x1 x2 x3 x4 x5 x6 x7 I
set_option maxRecDepth 100000 in
theorem tb_X9_turns_46 {G : Gt} (hG : Gok G) (hn : gn G = 104) {K266 : Int32 → Int32 → Mem → Option Mem} (hK266 : ∀ (x4 : Int32) (x5 : Int32) (I : Mem), J G (mu_X9_turns G) 266 [some (.ref 89), none, none, none, some (.int x4), some (.int x5), none, none, none, none, none, none, none, none, none, none] [] I (K266 x4 x5 I)) {R : Int32 → Int32 → Int32 → Int32 → Int32 → Int32 → Mem → Option Mem} (hR : ∀ (x1 : Int32) (x2 : Int32) (x3 : Int32) (x4 : Int32) (x5 : Int32) (x6 : Int32) (I : Mem), J G (mu_X9_turns G) 46 [some (.ref 89), some (.int x1), some (.int x2), some (.int x3), some (.int x4), some (.int x5), some (.int x6), none, none, none, none, none, none, none, none, none] [] I (R x1 x2 x3 x4 x5 x6 I)) (x1 : Int32) (x2 : Int32) (x3 : Int32) (x4 : Int32) (x5 : Int32) (x6 : Int32) (I : Mem) : J G (mu_X9_turns G) 46 [some (.ref 89), some (.int x1), some (.int x2), some (.int x3), some (.int x4), some (.int x5), some (.int x6), none, none, none, none, none, none, none, none, none] [] I (b_X9_turns_46 K266 R x1 x2 x3 x4 x5 x6 I) := by
  unfold b_X9_turns_46
  refine J_iload (pc := 46) (x := x6) dX9_turns_46 rfl ?_
  refine J_iload (pc := 48) (x := x5) dX9_turns_48 rfl ?_
  refine J_icmp_ge (pc := 50) (tgt := 266) dX9_turns_50 (by decide) ?_ ?_
  · refine J_weak (ls' := [some (.ref 89), none, none, none, some (.int x4), some (.int x5), none, none, none, none, none, none, none, none, none, none]) ⟨rfl, rfl, rfl, trivial⟩ ?_
    exact hK266 x4 x5 I
  · refine J_iconst (pc := 53) (v := (0 : Int32)) dX9_turns_53 (by decide) ?_
    refine J_istore (pc := 54) (ls' := [some (.ref 89), some (.int x1), some (.int x2), some (.int x3), some (.int x4), some (.int x5), some (.int x6), some (.int (0 : Int32)), none, none, none, none, none, none, none, none]) dX9_turns_54 (Nat.le_of_ble_eq_true rfl) rfl rfl ?_
    refine tl_X9_turns_56 hG hn (fun z16 z17 z18 z19 z20 z21 I22 => ?_) fuel x1 x2 x3 x4 x5 x6 (0 : Int32) I
    · refine J_iinc (pc := 260) (d := (1 : Int32)) (ls' := [some (.ref 89), some (.int z16), some (.int z17), some (.int z18), some (.int z19), some (.int z20), some (.int (z21 + (1 : Int32))), none, none, none, none, none, none, none, none, none]) dX9_turns_260 (by decide) rfl (Nat.le_of_ble_eq_true rfl) rfl rfl ?_
      refine J_goto (pc := 263) (tgt := 46) dX9_turns_263 (by decide) ?_
      exact hR z16 z17 z18 z19 z20 (z21 + (1 : Int32)) I22
theorem tl_X9_turns_46 {G : Gt} (hG : Gok G) (hn : gn G = 104) {K266 : Int32 → Int32 → Mem → Option Mem} (hK266 : ∀ (x4 : Int32) (x5 : Int32) (I : Mem), J G (mu_X9_turns G) 266 [some (.ref 89), none, none, none, some (.int x4), some (.int x5), none, none, none, none, none, none, none, none, none, none] [] I (K266 x4 x5 I)) (n : Nat) : ∀ (x1 : Int32) (x2 : Int32) (x3 : Int32) (x4 : Int32) (x5 : Int32) (x6 : Int32) (I : Mem), J G (mu_X9_turns G) 46 [some (.ref 89), some (.int x1), some (.int x2), some (.int x3), some (.int x4), some (.int x5), some (.int x6), none, none, none, none, none, none, none, none, none] [] I (l_X9_turns_46 K266 n x1 x2 x3 x4 x5 x6 I) := by
  induction n with
  | zero => intro x1 x2 x3 x4 x5 x6 I; exact J_none
  | succ n ih => intro x1 x2 x3 x4 x5 x6 I; exact tb_X9_turns_46 hG hn hK266 ih x1 x2 x3 x4 x5 x6 I
set_option maxRecDepth 100000 in
theorem tb_X9_turns_269 {G : Gt} (hG : Gok G) (hn : gn G = 104) {K296 : Int32 → Int32 → Mem → Option Mem} (hK296 : ∀ (x4 : Int32) (x5 : Int32) (I : Mem), J G (mu_X9_turns G) 296 [some (.ref 89), none, none, none, some (.int x4), some (.int x5), none, none, none, none, none, none, none, none, none, none] [] I (K296 x4 x5 I)) {R : Int32 → Int32 → Int32 → Mem → Option Mem} (hR : ∀ (x4 : Int32) (x5 : Int32) (x6 : Int32) (I : Mem), J G (mu_X9_turns G) 269 [some (.ref 89), none, none, none, some (.int x4), some (.int x5), some (.int x6), none, none, none, none, none, none, none, none, none] [] I (R x4 x5 x6 I)) (x4 : Int32) (x5 : Int32) (x6 : Int32) (I : Mem) : J G (mu_X9_turns G) 269 [some (.ref 89), none, none, none, some (.int x4), some (.int x5), some (.int x6), none, none, none, none, none, none, none, none, none] [] I (b_X9_turns_269 K296 R x4 x5 x6 I) := by
  unfold b_X9_turns_269
  refine J_iload (pc := 269) (x := x6) dX9_turns_269 rfl ?_
  refine J_bipush (pc := 271) (v := (16 : Int32)) dX9_turns_271 (by decide) ?_
  refine J_icmp_ge (pc := 273) (tgt := 296) dX9_turns_273 (by decide) ?_ ?_
  · refine J_weak (ls' := [some (.ref 89), none, none, none, some (.int x4), some (.int x5), none, none, none, none, none, none, none, none, none, none]) ⟨rfl, rfl, rfl, trivial⟩ ?_
    exact hK296 x4 x5 I
  · refine J_aload_n (pc := 276) (x := 89) dX9_turns_276 rfl ?_
    refine J_get (pc := 277) (t := 9) (k := 9) (.ref 95) (ok_m hn 89 (by decide) rfl) (by decide) rfl ingX9 (by decide) wd_527 rfl dX9_turns_277 ?_
    refine J_iload (pc := 280) (x := x6) dX9_turns_280 rfl ?_
    refine J_aload_n (pc := 282) (x := 89) dX9_turns_282 rfl ?_
    refine J_get (pc := 283) (t := 9) (k := 10) (.ref 96) (ok_m hn 89 (by decide) rfl) (by decide) rfl ingX9 (by decide) wd_528 rfl dX9_turns_283 ?_
    refine J_iload (pc := 286) (x := x6) dX9_turns_286 rfl ?_
    refine J_ck (fun hc26 => ?_)
    refine J_ild (pc := 288) (t := 36) (k := (tn x6)) (ok_m hn 96 (by decide) rfl) iT_36 (inb_in hc26) rfl dX9_turns_288 ?_
    refine J_ck (fun hc27 => ?_)
    refine J_ist (pc := 289) (t := 35) (k := (tn x6)) (ok_m hn 95 (by decide) rfl) iT_35 (inb_in hc27) rfl dX9_turns_289 ?_
    refine J_iinc (pc := 290) (d := (1 : Int32)) (ls' := [some (.ref 89), none, none, none, some (.int x4), some (.int x5), some (.int (x6 + (1 : Int32))), none, none, none, none, none, none, none, none, none]) dX9_turns_290 (by decide) rfl (Nat.le_of_ble_eq_true rfl) rfl rfl ?_
    refine J_goto (pc := 293) (tgt := 269) dX9_turns_293 (by decide) ?_
    exact hR x4 x5 (x6 + (1 : Int32)) (stm I 95 (tn x6) (I 96 (tn x6)))
theorem tl_X9_turns_269 {G : Gt} (hG : Gok G) (hn : gn G = 104) {K296 : Int32 → Int32 → Mem → Option Mem} (hK296 : ∀ (x4 : Int32) (x5 : Int32) (I : Mem), J G (mu_X9_turns G) 296 [some (.ref 89), none, none, none, some (.int x4), some (.int x5), none, none, none, none, none, none, none, none, none, none] [] I (K296 x4 x5 I)) (n : Nat) : ∀ (x4 : Int32) (x5 : Int32) (x6 : Int32) (I : Mem), J G (mu_X9_turns G) 269 [some (.ref 89), none, none, none, some (.int x4), some (.int x5), some (.int x6), none, none, none, none, none, none, none, none, none] [] I (l_X9_turns_269 K296 n x4 x5 x6 I) := by
  induction n with
  | zero => intro x4 x5 x6 I; exact J_none
  | succ n ih => intro x4 x5 x6 I; exact tb_X9_turns_269 hG hn hK296 ih x4 x5 x6 I
set_option maxRecDepth 100000 in
theorem tj_X9_turns_22 {G : Gt} (hG : Gok G) (hn : gn G = 104) (x1 : Int32) (x2 : Int32) (x3 : Int32) (y0 : Int32) (I : Mem) : J G (mu_X9_turns G) 22 [some (.ref 89), some (.int x1), some (.int x2), some (.int x3), none, none, none, none, none, none, none, none, none, none, none, none] [.int y0] I (j_X9_turns_22 x1 x2 x3 y0 I) := by
  unfold j_X9_turns_22
  refine J_istore (pc := 22) (ls' := [some (.ref 89), some (.int x1), some (.int x2), some (.int x3), some (.int y0), none, none, none, none, none, none, none, none, none, none, none]) dX9_turns_22 (Nat.le_of_ble_eq_true rfl) rfl rfl ?_
  refine J_iload_n (pc := 24) (x := x3) dX9_turns_24 rfl ?_
  refine J_if_eq (pc := 25) (tgt := 35) dX9_turns_25 (by decide) ?_ ?_
  · refine J_aload_n (pc := 35) (x := 89) dX9_turns_35 rfl ?_
    refine J_get (pc := 36) (t := 9) (k := 12) (.int (I 89 12)) (ok_m hn 89 (by decide) rfl) (by decide) rfl ingX9 (by decide) wd_525 rfl dX9_turns_36 ?_
    refine J_iconst (pc := 39) (v := (2 : Int32)) dX9_turns_39 (by decide) ?_
    refine J_idiv (pc := 40) dX9_turns_40 (by decide) ?_
    refine J_istore (pc := 41) (ls' := [some (.ref 89), some (.int x1), some (.int x2), some (.int x3), some (.int y0), some (.int ((I 89 12) / (2 : Int32))), none, none, none, none, none, none, none, none, none, none]) dX9_turns_41 (Nat.le_of_ble_eq_true rfl) rfl rfl ?_
    refine J_iconst (pc := 43) (v := (0 : Int32)) dX9_turns_43 (by decide) ?_
    refine J_istore (pc := 44) (ls' := [some (.ref 89), some (.int x1), some (.int x2), some (.int x3), some (.int y0), some (.int ((I 89 12) / (2 : Int32))), some (.int (0 : Int32)), none, none, none, none, none, none, none, none, none]) dX9_turns_44 (Nat.le_of_ble_eq_true rfl) rfl rfl ?_
    refine tl_X9_turns_46 hG hn (fun z23 z24 I25 => ?_) fuel x1 x2 x3 y0 ((I 89 12) / (2 : Int32)) (0 : Int32) I
    · refine J_iconst (pc := 266) (v := (0 : Int32)) dX9_turns_266 (by decide) ?_
      refine J_istore (pc := 267) (ls' := [some (.ref 89), none, none, none, some (.int z23), some (.int z24), some (.int (0 : Int32)), none, none, none, none, none, none, none, none, none]) dX9_turns_267 (Nat.le_of_ble_eq_true rfl) rfl rfl ?_
      refine tl_X9_turns_269 hG hn (fun z28 z29 I30 => ?_) fuel z23 z24 (0 : Int32) I25
      · refine J_aload_n (pc := 296) (x := 89) dX9_turns_296 rfl ?_
        refine J_iload (pc := 297) (x := z28) dX9_turns_297 rfl ?_
        refine J_put (pc := 299) (t := 9) (k := 11) (ok_m hn 89 (by decide) rfl) (by decide) rfl ingX9 tyX9 tyX9_ok nmX9 (by decide) wd_524 rfl pfI (Nat.le_of_ble_eq_true rfl) rfl dX9_turns_299 ?_
        refine J_aload_n (pc := 302) (x := 89) dX9_turns_302 rfl ?_
        refine J_iload (pc := 303) (x := z29) dX9_turns_303 rfl ?_
        refine J_put (pc := 305) (t := 9) (k := 12) (ok_m hn 89 (by decide) rfl) (by decide) rfl ingX9 tyX9 tyX9_ok nmX9 (by decide) wd_525 rfl pfI (Nat.le_of_ble_eq_true rfl) rfl dX9_turns_305 ?_
        exact J_vret (pc := 308) dX9_turns_308
  · refine J_aload_n (pc := 28) (x := 89) dX9_turns_28 rfl ?_
    refine J_get (pc := 29) (t := 9) (k := 12) (.int (I 89 12)) (ok_m hn 89 (by decide) rfl) (by decide) rfl ingX9 (by decide) wd_525 rfl dX9_turns_29 ?_
    refine J_goto (pc := 32) (tgt := 41) dX9_turns_32 (by decide) ?_
    refine J_istore (pc := 41) (ls' := [some (.ref 89), some (.int x1), some (.int x2), some (.int x3), some (.int y0), some (.int (I 89 12)), none, none, none, none, none, none, none, none, none, none]) dX9_turns_41 (Nat.le_of_ble_eq_true rfl) rfl rfl ?_
    refine J_iconst (pc := 43) (v := (0 : Int32)) dX9_turns_43 (by decide) ?_
    refine J_istore (pc := 44) (ls' := [some (.ref 89), some (.int x1), some (.int x2), some (.int x3), some (.int y0), some (.int (I 89 12)), some (.int (0 : Int32)), none, none, none, none, none, none, none, none, none]) dX9_turns_44 (Nat.le_of_ble_eq_true rfl) rfl rfl ?_
    refine tl_X9_turns_46 hG hn (fun z31 z32 I33 => ?_) fuel x1 x2 x3 y0 (I 89 12) (0 : Int32) I
    · refine J_iconst (pc := 266) (v := (0 : Int32)) dX9_turns_266 (by decide) ?_
      refine J_istore (pc := 267) (ls' := [some (.ref 89), none, none, none, some (.int z31), some (.int z32), some (.int (0 : Int32)), none, none, none, none, none, none, none, none, none]) dX9_turns_267 (Nat.le_of_ble_eq_true rfl) rfl rfl ?_
      refine tl_X9_turns_269 hG hn (fun z34 z35 I36 => ?_) fuel z31 z32 (0 : Int32) I33
      · refine J_aload_n (pc := 296) (x := 89) dX9_turns_296 rfl ?_
        refine J_iload (pc := 297) (x := z34) dX9_turns_297 rfl ?_
        refine J_put (pc := 299) (t := 9) (k := 11) (ok_m hn 89 (by decide) rfl) (by decide) rfl ingX9 tyX9 tyX9_ok nmX9 (by decide) wd_524 rfl pfI (Nat.le_of_ble_eq_true rfl) rfl dX9_turns_299 ?_
        refine J_aload_n (pc := 302) (x := 89) dX9_turns_302 rfl ?_
        refine J_iload (pc := 303) (x := z35) dX9_turns_303 rfl ?_
        refine J_put (pc := 305) (t := 9) (k := 12) (ok_m hn 89 (by decide) rfl) (by decide) rfl ingX9 tyX9 tyX9_ok nmX9 (by decide) wd_525 rfl pfI (Nat.le_of_ble_eq_true rfl) rfl dX9_turns_305 ?_
        exact J_vret (pc := 308) dX9_turns_308
set_option maxRecDepth 100000 in
theorem c_X9_turns {G : Gt} (hG : Gok G) (hn : gn G = 104) (x1 : Int32) (x2 : Int32) (I : Mem) : Ctv G yX9_turns cX9_turns 16 1 20 [.ref 89, .int x1, .int x2] I (f_X9_turns x1 x2 I) := by
  refine Ctv.of (ls := [some (.ref 89), some (.int x1), some (.int x2), none, none, none, none, none, none, none, none, none, none, none, none, none]) 13 hG (by decide) rfl (Nat.le_of_ble_eq_true rfl) ?_
  unfold f_X9_turns
  refine J_iload_n (pc := 0) (x := x1) dX9_turns_0 rfl ?_
  refine J_callSi (pc := 1) (as := [.int x1]) (st := []) (c_X9_isSide hG hn x1 I) (cw_RX9_80 rfl) wd_452 rfl ⟨Nat.le_of_ble_eq_true rfl, Nat.le_of_ble_eq_true rfl, Nat.le_of_ble_eq_true rfl, Nat.le_of_ble_eq_true rfl⟩ (Nat.le_of_ble_eq_true rfl) rfl dX9_turns_1 (fun r2 I1 => ?_)
  refine J_istore_n (pc := 4) (ls' := [some (.ref 89), some (.int x1), some (.int x2), some (.int r2), none, none, none, none, none, none, none, none, none, none, none, none]) dX9_turns_4 (Nat.le_of_ble_eq_true rfl) rfl rfl ?_
  refine J_iload_n (pc := 5) (x := r2) dX9_turns_5 rfl ?_
  refine J_if_eq (pc := 6) (tgt := 18) dX9_turns_6 (by decide) ?_ ?_
  · refine J_aload_n (pc := 18) (x := 89) dX9_turns_18 rfl ?_
    refine J_get (pc := 19) (t := 9) (k := 11) (.int (I1 89 11)) (ok_m hn 89 (by decide) rfl) (by decide) rfl ingX9 (by decide) wd_524 rfl dX9_turns_19 ?_
    exact tj_X9_turns_22 hG hn x1 x2 r2 (I1 89 11) I1
  · refine J_aload_n (pc := 9) (x := 89) dX9_turns_9 rfl ?_
    refine J_get (pc := 10) (t := 9) (k := 11) (.int (I1 89 11)) (ok_m hn 89 (by decide) rfl) (by decide) rfl ingX9 (by decide) wd_524 rfl dX9_turns_10 ?_
    refine J_iconst (pc := 13) (v := (2 : Int32)) dX9_turns_13 (by decide) ?_
    refine J_idiv (pc := 14) dX9_turns_14 (by decide) ?_
    refine J_goto (pc := 15) (tgt := 22) dX9_turns_15 (by decide) ?_
    exact tj_X9_turns_22 hG hn x1 x2 r2 ((I1 89 11) / (2 : Int32)) I1
abbrev mu_X9_foldAll (G : Gt) : Mt Mem := mv G cX9_foldAll 6 yX9_foldAll.cls 2 55
def j_X9_foldAll_42 (R : Int32 → Mem → Option Mem) (x1 : Int32) (y1 : Int32) (y2 : Int32) (I : Mem) : Option Mem :=
  ck (inb x1 4) <| bI (f_X9_isSide ((stm I 89 11 (y1 * y2)) 94 (tn x1)) (stm I 89 11 (y1 * y2))) fun r6 I5 => (if r6 = 0 then R (x1 + (1 : Int32)) (stm I5 89 12 (((stm I 89 11 (y1 * y2)) 89 12) * (2 : Int32))) else R (x1 + (1 : Int32)) (stm I5 89 12 (((stm I 89 11 (y1 * y2)) 89 12) * (1 : Int32))))
def b_X9_foldAll_12 (K78 : Mem → Option Mem) (R : Int32 → Mem → Option Mem) (x1 : Int32) (I : Mem) : Option Mem :=
  (if (I 89 8) ≤ x1 then K78 I else ck (inb x1 4) <| bI (f_X9_isSide (I 94 (tn x1)) I) fun r3 I2 => (if r3 = 0 then j_X9_foldAll_42 R x1 (I 89 11) (1 : Int32) I2 else j_X9_foldAll_42 R x1 (I 89 11) (2 : Int32) I2))
def l_X9_foldAll_12 (K78 : Mem → Option Mem) : Nat → Int32 → Mem → Option Mem := fx (b_X9_foldAll_12 K78) (fun _ _ => none)
def b_X9_foldAll_98 (K124 : Int32 → Mem → Option Mem) (R : Int32 → Int32 → Mem → Option Mem) (x1 : Int32) (x2 : Int32) (I : Mem) : Option Mem :=
  (if (16 : Int32) ≤ x2 then K124 x1 I else ck (inb x2 16) <| ck (inb x2 16) <| R x1 (x2 + (1 : Int32)) (stm (stm I 95 (tn x2) x2) 96 (tn x2) (0 : Int32)))
def l_X9_foldAll_98 (K124 : Int32 → Mem → Option Mem) : Nat → Int32 → Int32 → Mem → Option Mem := fx (b_X9_foldAll_98 K124) (fun _ _ _ => none)
def b_X9_foldAll_126 (K153 : Int32 → Mem → Option Mem) (R : Int32 → Int32 → Mem → Option Mem) (x1 : Int32) (x2 : Int32) (I : Mem) : Option Mem :=
  (if (I 89 8) ≤ x2 then K153 x1 I else ck (inb x2 4) <| bV (f_X9_turns (I 94 (tn x2)) ((1 : Int32) <<< (x2 &&& 31)) I) fun I13 => R x1 (x2 + (1 : Int32)) I13)
def l_X9_foldAll_126 (K153 : Int32 → Mem → Option Mem) : Nat → Int32 → Int32 → Mem → Option Mem := fx (b_X9_foldAll_126 K153) (fun _ _ _ => none)
def b_X9_foldAll_213 (K276 : Int32 → Int32 → Int32 → Mem → Option Mem) (R : Int32 → Int32 → Int32 → Int32 → Int32 → Mem → Option Mem) (x1 : Int32) (x2 : Int32) (x3 : Int32) (x4 : Int32) (x5 : Int32) (I : Mem) : Option Mem :=
  (if (2 : Int32) ≤ x5 then K276 x1 x2 x3 I else ck (inb (((2 : Int32) * x3) + x5) 32) <| ck (inb (((2 : Int32) * x3) + x5) 32) <| ck (inb (((2 : Int32) * x3) + x5) 32) <| R x1 x2 x3 x4 (x5 + (1 : Int32)) (stm (stm (stm I 97 (tn (((2 : Int32) * x3) + x5)) (x4 &&& (15 : Int32))) 98 (tn (((2 : Int32) * x3) + x5)) (((x4 >>> ((4 : Int32) &&& 31)) &&& (1 : Int32)) ^^^ x5)) 99 (tn (((2 : Int32) * x3) + x5)) (x4 >>> ((5 : Int32) &&& 31))))
def l_X9_foldAll_213 (K276 : Int32 → Int32 → Int32 → Mem → Option Mem) : Nat → Int32 → Int32 → Int32 → Int32 → Int32 → Mem → Option Mem := fx (b_X9_foldAll_213 K276) (fun _ _ _ _ _ _ => none)
def b_X9_foldAll_177 (K282 : Mem → Option Mem) (R : Int32 → Int32 → Int32 → Mem → Option Mem) (x1 : Int32) (x2 : Int32) (x3 : Int32) (I : Mem) : Option Mem :=
  (if x1 ≤ x3 then K282 I else (if x2 = 0 then ck (inb ((x1 - (1 : Int32)) - x3) 16) <| l_X9_foldAll_213 (fun (z21 : Int32) (z22 : Int32) (z23 : Int32) I24 => R z21 z22 (z23 + (1 : Int32)) I24) fuel x1 x2 x3 (I 95 (tn ((x1 - (1 : Int32)) - x3))) (0 : Int32) I else ck (inb x3 16) <| l_X9_foldAll_213 (fun (z26 : Int32) (z27 : Int32) (z28 : Int32) I29 => R z26 z27 (z28 + (1 : Int32)) I29) fuel x1 x2 x3 ((I 95 (tn x3)) ^^^ (16 : Int32)) (0 : Int32) I))
def l_X9_foldAll_177 (K282 : Mem → Option Mem) : Nat → Int32 → Int32 → Int32 → Mem → Option Mem := fx (b_X9_foldAll_177 K282) (fun _ _ _ _ => none)
def f_X9_foldAll (I : Mem) : Option Mem :=
  l_X9_foldAll_12 (fun I7 => l_X9_foldAll_98 (fun (z10 : Int32) I11 => l_X9_foldAll_126 (fun (z14 : Int32) I15 => ck (inb ((I15 89 8) - (1 : Int32)) 4) <| (if (I15 94 (tn ((I15 89 8) - (1 : Int32)))) = (114 : Int32) then l_X9_foldAll_177 (fun I30 => some I30) fuel z14 (1 : Int32) (0 : Int32) I15 else l_X9_foldAll_177 (fun I31 => some I31) fuel z14 (0 : Int32) (0 : Int32) I15)) fuel z10 (0 : Int32) I11) fuel (((stm I7 89 16 (I7 89 11)) 89 11) * ((stm I7 89 16 (I7 89 11)) 89 12)) (0 : Int32) (stm I7 89 16 (I7 89 11))) fuel (0 : Int32) (stm (stm I 89 11 (1 : Int32)) 89 12 (1 : Int32))
set_option maxRecDepth 100000 in
theorem tj_X9_foldAll_42 {G : Gt} (hG : Gok G) (hn : gn G = 104) {R : Int32 → Mem → Option Mem} (hR : ∀ (x1 : Int32) (I : Mem), J G (mu_X9_foldAll G) 12 [some (.ref 89), some (.int x1), none, none, none, none] [] I (R x1 I)) (x1 : Int32) (y1 : Int32) (y2 : Int32) (I : Mem) : J G (mu_X9_foldAll G) 42 [some (.ref 89), some (.int x1), none, none, none, none] [.int y2, .int y1, .ref 89] I (j_X9_foldAll_42 R x1 y1 y2 I) := by
  unfold j_X9_foldAll_42
  refine J_imul (pc := 42) dX9_foldAll_42 ?_
  refine J_put (pc := 43) (t := 9) (k := 11) (ok_m hn 89 (by decide) rfl) (by decide) rfl ingX9 tyX9 tyX9_ok nmX9 (by decide) wd_524 rfl pfI (Nat.le_of_ble_eq_true rfl) rfl dX9_foldAll_43 ?_
  refine J_aload_n (pc := 46) (x := 89) dX9_foldAll_46 rfl ?_
  refine J_dupR (pc := 47) dX9_foldAll_47 ?_
  refine J_get (pc := 48) (t := 9) (k := 12) (.int ((stm I 89 11 (y1 * y2)) 89 12)) (ok_m hn 89 (by decide) rfl) (by decide) rfl ingX9 (by decide) wd_525 rfl dX9_foldAll_48 ?_
  refine J_aload_n (pc := 51) (x := 89) dX9_foldAll_51 rfl ?_
  refine J_get (pc := 52) (t := 9) (k := 7) (.ref 94) (ok_m hn 89 (by decide) rfl) (by decide) rfl ingX9 (by decide) wd_523 rfl dX9_foldAll_52 ?_
  refine J_iload_n (pc := 55) (x := x1) dX9_foldAll_55 rfl ?_
  refine J_ck (fun hc4 => ?_)
  refine J_ild (pc := 56) (t := 34) (k := (tn x1)) (ok_m hn 94 (by decide) rfl) iT_34 (inb_in hc4) rfl dX9_foldAll_56 ?_
  refine J_callSi (pc := 57) (as := [.int ((stm I 89 11 (y1 * y2)) 94 (tn x1))]) (st := [.int ((stm I 89 11 (y1 * y2)) 89 12), .ref 89]) (c_X9_isSide hG hn ((stm I 89 11 (y1 * y2)) 94 (tn x1)) (stm I 89 11 (y1 * y2))) (cw_RX9_80 rfl) wd_452 rfl ⟨Nat.le_of_ble_eq_true rfl, Nat.le_of_ble_eq_true rfl, Nat.le_of_ble_eq_true rfl, Nat.le_of_ble_eq_true rfl⟩ (Nat.le_of_ble_eq_true rfl) rfl dX9_foldAll_57 (fun r6 I5 => ?_)
  refine J_if_eq (pc := 60) (tgt := 67) dX9_foldAll_60 (by decide) ?_ ?_
  · refine J_iconst (pc := 67) (v := (2 : Int32)) dX9_foldAll_67 (by decide) ?_
    refine J_imul (pc := 68) dX9_foldAll_68 ?_
    refine J_put (pc := 69) (t := 9) (k := 12) (ok_m hn 89 (by decide) rfl) (by decide) rfl ingX9 tyX9 tyX9_ok nmX9 (by decide) wd_525 rfl pfI (Nat.le_of_ble_eq_true rfl) rfl dX9_foldAll_69 ?_
    refine J_iinc (pc := 72) (d := (1 : Int32)) (ls' := [some (.ref 89), some (.int (x1 + (1 : Int32))), none, none, none, none]) dX9_foldAll_72 (by decide) rfl (Nat.le_of_ble_eq_true rfl) rfl rfl ?_
    refine J_goto (pc := 75) (tgt := 12) dX9_foldAll_75 (by decide) ?_
    exact hR (x1 + (1 : Int32)) (stm I5 89 12 (((stm I 89 11 (y1 * y2)) 89 12) * (2 : Int32)))
  · refine J_iconst (pc := 63) (v := (1 : Int32)) dX9_foldAll_63 (by decide) ?_
    refine J_goto (pc := 64) (tgt := 68) dX9_foldAll_64 (by decide) ?_
    refine J_imul (pc := 68) dX9_foldAll_68 ?_
    refine J_put (pc := 69) (t := 9) (k := 12) (ok_m hn 89 (by decide) rfl) (by decide) rfl ingX9 tyX9 tyX9_ok nmX9 (by decide) wd_525 rfl pfI (Nat.le_of_ble_eq_true rfl) rfl dX9_foldAll_69 ?_
    refine J_iinc (pc := 72) (d := (1 : Int32)) (ls' := [some (.ref 89), some (.int (x1 + (1 : Int32))), none, none, none, none]) dX9_foldAll_72 (by decide) rfl (Nat.le_of_ble_eq_true rfl) rfl rfl ?_
    refine J_goto (pc := 75) (tgt := 12) dX9_foldAll_75 (by decide) ?_
    exact hR (x1 + (1 : Int32)) (stm I5 89 12 (((stm I 89 11 (y1 * y2)) 89 12) * (1 : Int32)))
set_option maxRecDepth 100000 in
theorem tb_X9_foldAll_12 {G : Gt} (hG : Gok G) (hn : gn G = 104) {K78 : Mem → Option Mem} (hK78 : ∀ (I : Mem), J G (mu_X9_foldAll G) 78 [some (.ref 89), none, none, none, none, none] [] I (K78 I)) {R : Int32 → Mem → Option Mem} (hR : ∀ (x1 : Int32) (I : Mem), J G (mu_X9_foldAll G) 12 [some (.ref 89), some (.int x1), none, none, none, none] [] I (R x1 I)) (x1 : Int32) (I : Mem) : J G (mu_X9_foldAll G) 12 [some (.ref 89), some (.int x1), none, none, none, none] [] I (b_X9_foldAll_12 K78 R x1 I) := by
  unfold b_X9_foldAll_12
  refine J_iload_n (pc := 12) (x := x1) dX9_foldAll_12 rfl ?_
  refine J_aload_n (pc := 13) (x := 89) dX9_foldAll_13 rfl ?_
  refine J_get (pc := 14) (t := 9) (k := 8) (.int (I 89 8)) (ok_m hn 89 (by decide) rfl) (by decide) rfl ingX9 (by decide) wd_522 rfl dX9_foldAll_14 ?_
  refine J_icmp_ge (pc := 17) (tgt := 78) dX9_foldAll_17 (by decide) ?_ ?_
  · refine J_weak (ls' := [some (.ref 89), none, none, none, none, none]) ⟨rfl, trivial⟩ ?_
    exact hK78 I
  · refine J_aload_n (pc := 20) (x := 89) dX9_foldAll_20 rfl ?_
    refine J_dupR (pc := 21) dX9_foldAll_21 ?_
    refine J_get (pc := 22) (t := 9) (k := 11) (.int (I 89 11)) (ok_m hn 89 (by decide) rfl) (by decide) rfl ingX9 (by decide) wd_524 rfl dX9_foldAll_22 ?_
    refine J_aload_n (pc := 25) (x := 89) dX9_foldAll_25 rfl ?_
    refine J_get (pc := 26) (t := 9) (k := 7) (.ref 94) (ok_m hn 89 (by decide) rfl) (by decide) rfl ingX9 (by decide) wd_523 rfl dX9_foldAll_26 ?_
    refine J_iload_n (pc := 29) (x := x1) dX9_foldAll_29 rfl ?_
    refine J_ck (fun hc1 => ?_)
    refine J_ild (pc := 30) (t := 34) (k := (tn x1)) (ok_m hn 94 (by decide) rfl) iT_34 (inb_in hc1) rfl dX9_foldAll_30 ?_
    refine J_callSi (pc := 31) (as := [.int (I 94 (tn x1))]) (st := [.int (I 89 11), .ref 89]) (c_X9_isSide hG hn (I 94 (tn x1)) I) (cw_RX9_80 rfl) wd_452 rfl ⟨Nat.le_of_ble_eq_true rfl, Nat.le_of_ble_eq_true rfl, Nat.le_of_ble_eq_true rfl, Nat.le_of_ble_eq_true rfl⟩ (Nat.le_of_ble_eq_true rfl) rfl dX9_foldAll_31 (fun r3 I2 => ?_)
    refine J_if_eq (pc := 34) (tgt := 41) dX9_foldAll_34 (by decide) ?_ ?_
    · refine J_iconst (pc := 41) (v := (1 : Int32)) dX9_foldAll_41 (by decide) ?_
      exact tj_X9_foldAll_42 hG hn hR x1 (I 89 11) (1 : Int32) I2
    · refine J_iconst (pc := 37) (v := (2 : Int32)) dX9_foldAll_37 (by decide) ?_
      refine J_goto (pc := 38) (tgt := 42) dX9_foldAll_38 (by decide) ?_
      exact tj_X9_foldAll_42 hG hn hR x1 (I 89 11) (2 : Int32) I2
theorem tl_X9_foldAll_12 {G : Gt} (hG : Gok G) (hn : gn G = 104) {K78 : Mem → Option Mem} (hK78 : ∀ (I : Mem), J G (mu_X9_foldAll G) 78 [some (.ref 89), none, none, none, none, none] [] I (K78 I)) (n : Nat) : ∀ (x1 : Int32) (I : Mem), J G (mu_X9_foldAll G) 12 [some (.ref 89), some (.int x1), none, none, none, none] [] I (l_X9_foldAll_12 K78 n x1 I) := by
  induction n with
  | zero => intro x1 I; exact J_none
  | succ n ih => intro x1 I; exact tb_X9_foldAll_12 hG hn hK78 ih x1 I
set_option maxRecDepth 100000 in
theorem tb_X9_foldAll_98 {G : Gt} (hG : Gok G) (hn : gn G = 104) {K124 : Int32 → Mem → Option Mem} (hK124 : ∀ (x1 : Int32) (I : Mem), J G (mu_X9_foldAll G) 124 [some (.ref 89), some (.int x1), none, none, none, none] [] I (K124 x1 I)) {R : Int32 → Int32 → Mem → Option Mem} (hR : ∀ (x1 : Int32) (x2 : Int32) (I : Mem), J G (mu_X9_foldAll G) 98 [some (.ref 89), some (.int x1), some (.int x2), none, none, none] [] I (R x1 x2 I)) (x1 : Int32) (x2 : Int32) (I : Mem) : J G (mu_X9_foldAll G) 98 [some (.ref 89), some (.int x1), some (.int x2), none, none, none] [] I (b_X9_foldAll_98 K124 R x1 x2 I) := by
  unfold b_X9_foldAll_98
  refine J_iload_n (pc := 98) (x := x2) dX9_foldAll_98 rfl ?_
  refine J_bipush (pc := 99) (v := (16 : Int32)) dX9_foldAll_99 (by decide) ?_
  refine J_icmp_ge (pc := 101) (tgt := 124) dX9_foldAll_101 (by decide) ?_ ?_
  · refine J_weak (ls' := [some (.ref 89), some (.int x1), none, none, none, none]) ⟨rfl, rfl, trivial⟩ ?_
    exact hK124 x1 I
  · refine J_aload_n (pc := 104) (x := 89) dX9_foldAll_104 rfl ?_
    refine J_get (pc := 105) (t := 9) (k := 9) (.ref 95) (ok_m hn 89 (by decide) rfl) (by decide) rfl ingX9 (by decide) wd_527 rfl dX9_foldAll_105 ?_
    refine J_iload_n (pc := 108) (x := x2) dX9_foldAll_108 rfl ?_
    refine J_iload_n (pc := 109) (x := x2) dX9_foldAll_109 rfl ?_
    refine J_ck (fun hc8 => ?_)
    refine J_ist (pc := 110) (t := 35) (k := (tn x2)) (ok_m hn 95 (by decide) rfl) iT_35 (inb_in hc8) rfl dX9_foldAll_110 ?_
    refine J_aload_n (pc := 111) (x := 89) dX9_foldAll_111 rfl ?_
    refine J_get (pc := 112) (t := 9) (k := 10) (.ref 96) (ok_m hn 89 (by decide) rfl) (by decide) rfl ingX9 (by decide) wd_528 rfl dX9_foldAll_112 ?_
    refine J_iload_n (pc := 115) (x := x2) dX9_foldAll_115 rfl ?_
    refine J_iconst (pc := 116) (v := (0 : Int32)) dX9_foldAll_116 (by decide) ?_
    refine J_ck (fun hc9 => ?_)
    refine J_ist (pc := 117) (t := 36) (k := (tn x2)) (ok_m hn 96 (by decide) rfl) iT_36 (inb_in hc9) rfl dX9_foldAll_117 ?_
    refine J_iinc (pc := 118) (d := (1 : Int32)) (ls' := [some (.ref 89), some (.int x1), some (.int (x2 + (1 : Int32))), none, none, none]) dX9_foldAll_118 (by decide) rfl (Nat.le_of_ble_eq_true rfl) rfl rfl ?_
    refine J_goto (pc := 121) (tgt := 98) dX9_foldAll_121 (by decide) ?_
    exact hR x1 (x2 + (1 : Int32)) (stm (stm I 95 (tn x2) x2) 96 (tn x2) (0 : Int32))
theorem tl_X9_foldAll_98 {G : Gt} (hG : Gok G) (hn : gn G = 104) {K124 : Int32 → Mem → Option Mem} (hK124 : ∀ (x1 : Int32) (I : Mem), J G (mu_X9_foldAll G) 124 [some (.ref 89), some (.int x1), none, none, none, none] [] I (K124 x1 I)) (n : Nat) : ∀ (x1 : Int32) (x2 : Int32) (I : Mem), J G (mu_X9_foldAll G) 98 [some (.ref 89), some (.int x1), some (.int x2), none, none, none] [] I (l_X9_foldAll_98 K124 n x1 x2 I) := by
  induction n with
  | zero => intro x1 x2 I; exact J_none
  | succ n ih => intro x1 x2 I; exact tb_X9_foldAll_98 hG hn hK124 ih x1 x2 I
set_option maxRecDepth 100000 in
theorem tb_X9_foldAll_126 {G : Gt} (hG : Gok G) (hn : gn G = 104) {K153 : Int32 → Mem → Option Mem} (hK153 : ∀ (x1 : Int32) (I : Mem), J G (mu_X9_foldAll G) 153 [some (.ref 89), some (.int x1), none, none, none, none] [] I (K153 x1 I)) {R : Int32 → Int32 → Mem → Option Mem} (hR : ∀ (x1 : Int32) (x2 : Int32) (I : Mem), J G (mu_X9_foldAll G) 126 [some (.ref 89), some (.int x1), some (.int x2), none, none, none] [] I (R x1 x2 I)) (x1 : Int32) (x2 : Int32) (I : Mem) : J G (mu_X9_foldAll G) 126 [some (.ref 89), some (.int x1), some (.int x2), none, none, none] [] I (b_X9_foldAll_126 K153 R x1 x2 I) := by
  unfold b_X9_foldAll_126
  refine J_iload_n (pc := 126) (x := x2) dX9_foldAll_126 rfl ?_
  refine J_aload_n (pc := 127) (x := 89) dX9_foldAll_127 rfl ?_
  refine J_get (pc := 128) (t := 9) (k := 8) (.int (I 89 8)) (ok_m hn 89 (by decide) rfl) (by decide) rfl ingX9 (by decide) wd_522 rfl dX9_foldAll_128 ?_
  refine J_icmp_ge (pc := 131) (tgt := 153) dX9_foldAll_131 (by decide) ?_ ?_
  · refine J_weak (ls' := [some (.ref 89), some (.int x1), none, none, none, none]) ⟨rfl, rfl, trivial⟩ ?_
    exact hK153 x1 I
  · refine J_aload_n (pc := 134) (x := 89) dX9_foldAll_134 rfl ?_
    refine J_aload_n (pc := 135) (x := 89) dX9_foldAll_135 rfl ?_
    refine J_get (pc := 136) (t := 9) (k := 7) (.ref 94) (ok_m hn 89 (by decide) rfl) (by decide) rfl ingX9 (by decide) wd_523 rfl dX9_foldAll_136 ?_
    refine J_iload_n (pc := 139) (x := x2) dX9_foldAll_139 rfl ?_
    refine J_ck (fun hc12 => ?_)
    refine J_ild (pc := 140) (t := 34) (k := (tn x2)) (ok_m hn 94 (by decide) rfl) iT_34 (inb_in hc12) rfl dX9_foldAll_140 ?_
    refine J_iconst (pc := 141) (v := (1 : Int32)) dX9_foldAll_141 (by decide) ?_
    refine J_iload_n (pc := 142) (x := x2) dX9_foldAll_142 rfl ?_
    refine J_ishl (pc := 143) dX9_foldAll_143 ?_
    refine J_callVv (pc := 144) (t := 9) (as := [.int (I 94 (tn x2)), .int ((1 : Int32) <<< (x2 &&& 31))]) (st := []) (c_X9_turns hG hn (I 94 (tn x2)) ((1 : Int32) <<< (x2 &&& 31)) I) (ok_m hn 89 (by decide) rfl) (by decide) rfl (cw_RX9_142 rfl) wd_530 wd_529 rfl ⟨Nat.le_of_ble_eq_true rfl, Nat.le_of_ble_eq_true rfl, Nat.le_of_ble_eq_true rfl, Nat.le_of_ble_eq_true rfl⟩ (Nat.le_of_ble_eq_true rfl) rfl dX9_foldAll_144 (fun I13 => ?_)
    refine J_iinc (pc := 147) (d := (1 : Int32)) (ls' := [some (.ref 89), some (.int x1), some (.int (x2 + (1 : Int32))), none, none, none]) dX9_foldAll_147 (by decide) rfl (Nat.le_of_ble_eq_true rfl) rfl rfl ?_
    refine J_goto (pc := 150) (tgt := 126) dX9_foldAll_150 (by decide) ?_
    exact hR x1 (x2 + (1 : Int32)) I13
theorem tl_X9_foldAll_126 {G : Gt} (hG : Gok G) (hn : gn G = 104) {K153 : Int32 → Mem → Option Mem} (hK153 : ∀ (x1 : Int32) (I : Mem), J G (mu_X9_foldAll G) 153 [some (.ref 89), some (.int x1), none, none, none, none] [] I (K153 x1 I)) (n : Nat) : ∀ (x1 : Int32) (x2 : Int32) (I : Mem), J G (mu_X9_foldAll G) 126 [some (.ref 89), some (.int x1), some (.int x2), none, none, none] [] I (l_X9_foldAll_126 K153 n x1 x2 I) := by
  induction n with
  | zero => intro x1 x2 I; exact J_none
  | succ n ih => intro x1 x2 I; exact tb_X9_foldAll_126 hG hn hK153 ih x1 x2 I
set_option maxRecDepth 100000 in
theorem tb_X9_foldAll_213 {G : Gt} (hG : Gok G) (hn : gn G = 104) {K276 : Int32 → Int32 → Int32 → Mem → Option Mem} (hK276 : ∀ (x1 : Int32) (x2 : Int32) (x3 : Int32) (I : Mem), J G (mu_X9_foldAll G) 276 [some (.ref 89), some (.int x1), some (.int x2), some (.int x3), none, none] [] I (K276 x1 x2 x3 I)) {R : Int32 → Int32 → Int32 → Int32 → Int32 → Mem → Option Mem} (hR : ∀ (x1 : Int32) (x2 : Int32) (x3 : Int32) (x4 : Int32) (x5 : Int32) (I : Mem), J G (mu_X9_foldAll G) 213 [some (.ref 89), some (.int x1), some (.int x2), some (.int x3), some (.int x4), some (.int x5)] [] I (R x1 x2 x3 x4 x5 I)) (x1 : Int32) (x2 : Int32) (x3 : Int32) (x4 : Int32) (x5 : Int32) (I : Mem) : J G (mu_X9_foldAll G) 213 [some (.ref 89), some (.int x1), some (.int x2), some (.int x3), some (.int x4), some (.int x5)] [] I (b_X9_foldAll_213 K276 R x1 x2 x3 x4 x5 I) := by
  unfold b_X9_foldAll_213
  refine J_iload (pc := 213) (x := x5) dX9_foldAll_213 rfl ?_
  refine J_iconst (pc := 215) (v := (2 : Int32)) dX9_foldAll_215 (by decide) ?_
  refine J_icmp_ge (pc := 216) (tgt := 276) dX9_foldAll_216 (by decide) ?_ ?_
  · refine J_weak (ls' := [some (.ref 89), some (.int x1), some (.int x2), some (.int x3), none, none]) ⟨rfl, rfl, rfl, rfl, trivial⟩ ?_
    exact hK276 x1 x2 x3 I
  · refine J_aload_n (pc := 219) (x := 89) dX9_foldAll_219 rfl ?_
    refine J_get (pc := 220) (t := 9) (k := 13) (.ref 97) (ok_m hn 89 (by decide) rfl) (by decide) rfl ingX9 (by decide) wd_533 rfl dX9_foldAll_220 ?_
    refine J_iconst (pc := 223) (v := (2 : Int32)) dX9_foldAll_223 (by decide) ?_
    refine J_iload_n (pc := 224) (x := x3) dX9_foldAll_224 rfl ?_
    refine J_imul (pc := 225) dX9_foldAll_225 ?_
    refine J_iload (pc := 226) (x := x5) dX9_foldAll_226 rfl ?_
    refine J_iadd (pc := 228) dX9_foldAll_228 ?_
    refine J_iload (pc := 229) (x := x4) dX9_foldAll_229 rfl ?_
    refine J_bipush (pc := 231) (v := (15 : Int32)) dX9_foldAll_231 (by decide) ?_
    refine J_iand (pc := 233) dX9_foldAll_233 ?_
    refine J_ck (fun hc18 => ?_)
    refine J_ist (pc := 234) (t := 37) (k := (tn (((2 : Int32) * x3) + x5))) (ok_m hn 97 (by decide) rfl) iT_37 (inb_in hc18) rfl dX9_foldAll_234 ?_
    refine J_aload_n (pc := 235) (x := 89) dX9_foldAll_235 rfl ?_
    refine J_get (pc := 236) (t := 9) (k := 14) (.ref 98) (ok_m hn 89 (by decide) rfl) (by decide) rfl ingX9 (by decide) wd_534 rfl dX9_foldAll_236 ?_
    refine J_iconst (pc := 239) (v := (2 : Int32)) dX9_foldAll_239 (by decide) ?_
    refine J_iload_n (pc := 240) (x := x3) dX9_foldAll_240 rfl ?_
    refine J_imul (pc := 241) dX9_foldAll_241 ?_
    refine J_iload (pc := 242) (x := x5) dX9_foldAll_242 rfl ?_
    refine J_iadd (pc := 244) dX9_foldAll_244 ?_
    refine J_iload (pc := 245) (x := x4) dX9_foldAll_245 rfl ?_
    refine J_iconst (pc := 247) (v := (4 : Int32)) dX9_foldAll_247 (by decide) ?_
    refine J_ishr (pc := 248) dX9_foldAll_248 ?_
    refine J_iconst (pc := 249) (v := (1 : Int32)) dX9_foldAll_249 (by decide) ?_
    refine J_iand (pc := 250) dX9_foldAll_250 ?_
    refine J_iload (pc := 251) (x := x5) dX9_foldAll_251 rfl ?_
    refine J_ixor (pc := 253) dX9_foldAll_253 ?_
    refine J_ck (fun hc19 => ?_)
    refine J_ist (pc := 254) (t := 38) (k := (tn (((2 : Int32) * x3) + x5))) (ok_m hn 98 (by decide) rfl) iT_38 (inb_in hc19) rfl dX9_foldAll_254 ?_
    refine J_aload_n (pc := 255) (x := 89) dX9_foldAll_255 rfl ?_
    refine J_get (pc := 256) (t := 9) (k := 15) (.ref 99) (ok_m hn 89 (by decide) rfl) (by decide) rfl ingX9 (by decide) wd_535 rfl dX9_foldAll_256 ?_
    refine J_iconst (pc := 259) (v := (2 : Int32)) dX9_foldAll_259 (by decide) ?_
    refine J_iload_n (pc := 260) (x := x3) dX9_foldAll_260 rfl ?_
    refine J_imul (pc := 261) dX9_foldAll_261 ?_
    refine J_iload (pc := 262) (x := x5) dX9_foldAll_262 rfl ?_
    refine J_iadd (pc := 264) dX9_foldAll_264 ?_
    refine J_iload (pc := 265) (x := x4) dX9_foldAll_265 rfl ?_
    refine J_iconst (pc := 267) (v := (5 : Int32)) dX9_foldAll_267 (by decide) ?_
    refine J_ishr (pc := 268) dX9_foldAll_268 ?_
    refine J_ck (fun hc20 => ?_)
    refine J_ist (pc := 269) (t := 39) (k := (tn (((2 : Int32) * x3) + x5))) (ok_m hn 99 (by decide) rfl) iT_39 (inb_in hc20) rfl dX9_foldAll_269 ?_
    refine J_iinc (pc := 270) (d := (1 : Int32)) (ls' := [some (.ref 89), some (.int x1), some (.int x2), some (.int x3), some (.int x4), some (.int (x5 + (1 : Int32)))]) dX9_foldAll_270 (by decide) rfl (Nat.le_of_ble_eq_true rfl) rfl rfl ?_
    refine J_goto (pc := 273) (tgt := 213) dX9_foldAll_273 (by decide) ?_
    exact hR x1 x2 x3 x4 (x5 + (1 : Int32)) (stm (stm (stm I 97 (tn (((2 : Int32) * x3) + x5)) (x4 &&& (15 : Int32))) 98 (tn (((2 : Int32) * x3) + x5)) (((x4 >>> ((4 : Int32) &&& 31)) &&& (1 : Int32)) ^^^ x5)) 99 (tn (((2 : Int32) * x3) + x5)) (x4 >>> ((5 : Int32) &&& 31)))
theorem tl_X9_foldAll_213 {G : Gt} (hG : Gok G) (hn : gn G = 104) {K276 : Int32 → Int32 → Int32 → Mem → Option Mem} (hK276 : ∀ (x1 : Int32) (x2 : Int32) (x3 : Int32) (I : Mem), J G (mu_X9_foldAll G) 276 [some (.ref 89), some (.int x1), some (.int x2), some (.int x3), none, none] [] I (K276 x1 x2 x3 I)) (n : Nat) : ∀ (x1 : Int32) (x2 : Int32) (x3 : Int32) (x4 : Int32) (x5 : Int32) (I : Mem), J G (mu_X9_foldAll G) 213 [some (.ref 89), some (.int x1), some (.int x2), some (.int x3), some (.int x4), some (.int x5)] [] I (l_X9_foldAll_213 K276 n x1 x2 x3 x4 x5 I) := by
  induction n with
  | zero => intro x1 x2 x3 x4 x5 I; exact J_none
  | succ n ih => intro x1 x2 x3 x4 x5 I; exact tb_X9_foldAll_213 hG hn hK276 ih x1 x2 x3 x4 x5 I
set_option maxRecDepth 100000 in
theorem tb_X9_foldAll_177 {G : Gt} (hG : Gok G) (hn : gn G = 104) {K282 : Mem → Option Mem} (hK282 : ∀ (I : Mem), J G (mu_X9_foldAll G) 282 [none, none, none, none, none, none] [] I (K282 I)) {R : Int32 → Int32 → Int32 → Mem → Option Mem} (hR : ∀ (x1 : Int32) (x2 : Int32) (x3 : Int32) (I : Mem), J G (mu_X9_foldAll G) 177 [some (.ref 89), some (.int x1), some (.int x2), some (.int x3), none, none] [] I (R x1 x2 x3 I)) (x1 : Int32) (x2 : Int32) (x3 : Int32) (I : Mem) : J G (mu_X9_foldAll G) 177 [some (.ref 89), some (.int x1), some (.int x2), some (.int x3), none, none] [] I (b_X9_foldAll_177 K282 R x1 x2 x3 I) := by
  unfold b_X9_foldAll_177
  refine J_iload_n (pc := 177) (x := x3) dX9_foldAll_177 rfl ?_
  refine J_iload_n (pc := 178) (x := x1) dX9_foldAll_178 rfl ?_
  refine J_icmp_ge (pc := 179) (tgt := 282) dX9_foldAll_179 (by decide) ?_ ?_
  · refine J_weak (ls' := [none, none, none, none, none, none]) trivial ?_
    exact hK282 I
  · refine J_iload_n (pc := 182) (x := x2) dX9_foldAll_182 rfl ?_
    refine J_if_eq (pc := 183) (tgt := 198) dX9_foldAll_183 (by decide) ?_ ?_
    · refine J_aload_n (pc := 198) (x := 89) dX9_foldAll_198 rfl ?_
      refine J_get (pc := 199) (t := 9) (k := 9) (.ref 95) (ok_m hn 89 (by decide) rfl) (by decide) rfl ingX9 (by decide) wd_527 rfl dX9_foldAll_199 ?_
      refine J_iload_n (pc := 202) (x := x1) dX9_foldAll_202 rfl ?_
      refine J_iconst (pc := 203) (v := (1 : Int32)) dX9_foldAll_203 (by decide) ?_
      refine J_isub (pc := 204) dX9_foldAll_204 ?_
      refine J_iload_n (pc := 205) (x := x3) dX9_foldAll_205 rfl ?_
      refine J_isub (pc := 206) dX9_foldAll_206 ?_
      refine J_ck (fun hc17 => ?_)
      refine J_ild (pc := 207) (t := 35) (k := (tn ((x1 - (1 : Int32)) - x3))) (ok_m hn 95 (by decide) rfl) iT_35 (inb_in hc17) rfl dX9_foldAll_207 ?_
      refine J_istore (pc := 208) (ls' := [some (.ref 89), some (.int x1), some (.int x2), some (.int x3), some (.int (I 95 (tn ((x1 - (1 : Int32)) - x3)))), none]) dX9_foldAll_208 (Nat.le_of_ble_eq_true rfl) rfl rfl ?_
      refine J_iconst (pc := 210) (v := (0 : Int32)) dX9_foldAll_210 (by decide) ?_
      refine J_istore (pc := 211) (ls' := [some (.ref 89), some (.int x1), some (.int x2), some (.int x3), some (.int (I 95 (tn ((x1 - (1 : Int32)) - x3)))), some (.int (0 : Int32))]) dX9_foldAll_211 (Nat.le_of_ble_eq_true rfl) rfl rfl ?_
      refine tl_X9_foldAll_213 hG hn (fun z21 z22 z23 I24 => ?_) fuel x1 x2 x3 (I 95 (tn ((x1 - (1 : Int32)) - x3))) (0 : Int32) I
      · refine J_iinc (pc := 276) (d := (1 : Int32)) (ls' := [some (.ref 89), some (.int z21), some (.int z22), some (.int (z23 + (1 : Int32))), none, none]) dX9_foldAll_276 (by decide) rfl (Nat.le_of_ble_eq_true rfl) rfl rfl ?_
        refine J_goto (pc := 279) (tgt := 177) dX9_foldAll_279 (by decide) ?_
        exact hR z21 z22 (z23 + (1 : Int32)) I24
    · refine J_aload_n (pc := 186) (x := 89) dX9_foldAll_186 rfl ?_
      refine J_get (pc := 187) (t := 9) (k := 9) (.ref 95) (ok_m hn 89 (by decide) rfl) (by decide) rfl ingX9 (by decide) wd_527 rfl dX9_foldAll_187 ?_
      refine J_iload_n (pc := 190) (x := x3) dX9_foldAll_190 rfl ?_
      refine J_ck (fun hc25 => ?_)
      refine J_ild (pc := 191) (t := 35) (k := (tn x3)) (ok_m hn 95 (by decide) rfl) iT_35 (inb_in hc25) rfl dX9_foldAll_191 ?_
      refine J_bipush (pc := 192) (v := (16 : Int32)) dX9_foldAll_192 (by decide) ?_
      refine J_ixor (pc := 194) dX9_foldAll_194 ?_
      refine J_goto (pc := 195) (tgt := 208) dX9_foldAll_195 (by decide) ?_
      refine J_istore (pc := 208) (ls' := [some (.ref 89), some (.int x1), some (.int x2), some (.int x3), some (.int ((I 95 (tn x3)) ^^^ (16 : Int32))), none]) dX9_foldAll_208 (Nat.le_of_ble_eq_true rfl) rfl rfl ?_
      refine J_iconst (pc := 210) (v := (0 : Int32)) dX9_foldAll_210 (by decide) ?_
      refine J_istore (pc := 211) (ls' := [some (.ref 89), some (.int x1), some (.int x2), some (.int x3), some (.int ((I 95 (tn x3)) ^^^ (16 : Int32))), some (.int (0 : Int32))]) dX9_foldAll_211 (Nat.le_of_ble_eq_true rfl) rfl rfl ?_
      refine tl_X9_foldAll_213 hG hn (fun z26 z27 z28 I29 => ?_) fuel x1 x2 x3 ((I 95 (tn x3)) ^^^ (16 : Int32)) (0 : Int32) I
      · refine J_iinc (pc := 276) (d := (1 : Int32)) (ls' := [some (.ref 89), some (.int z26), some (.int z27), some (.int (z28 + (1 : Int32))), none, none]) dX9_foldAll_276 (by decide) rfl (Nat.le_of_ble_eq_true rfl) rfl rfl ?_
        refine J_goto (pc := 279) (tgt := 177) dX9_foldAll_279 (by decide) ?_
        exact hR z26 z27 (z28 + (1 : Int32)) I29
theorem tl_X9_foldAll_177 {G : Gt} (hG : Gok G) (hn : gn G = 104) {K282 : Mem → Option Mem} (hK282 : ∀ (I : Mem), J G (mu_X9_foldAll G) 282 [none, none, none, none, none, none] [] I (K282 I)) (n : Nat) : ∀ (x1 : Int32) (x2 : Int32) (x3 : Int32) (I : Mem), J G (mu_X9_foldAll G) 177 [some (.ref 89), some (.int x1), some (.int x2), some (.int x3), none, none] [] I (l_X9_foldAll_177 K282 n x1 x2 x3 I) := by
  induction n with
  | zero => intro x1 x2 x3 I; exact J_none
  | succ n ih => intro x1 x2 x3 I; exact tb_X9_foldAll_177 hG hn hK282 ih x1 x2 x3 I
set_option maxRecDepth 100000 in
theorem c_X9_foldAll {G : Gt} (hG : Gok G) (hn : gn G = 104) (I : Mem) : Ctv G yX9_foldAll cX9_foldAll 6 2 55 [.ref 89] I (f_X9_foldAll I) := by
  refine Ctv.of (ls := [some (.ref 89), none, none, none, none, none]) 5 hG (by decide) rfl (Nat.le_of_ble_eq_true rfl) ?_
  unfold f_X9_foldAll
  refine J_aload_n (pc := 0) (x := 89) dX9_foldAll_0 rfl ?_
  refine J_iconst (pc := 1) (v := (1 : Int32)) dX9_foldAll_1 (by decide) ?_
  refine J_put (pc := 2) (t := 9) (k := 11) (ok_m hn 89 (by decide) rfl) (by decide) rfl ingX9 tyX9 tyX9_ok nmX9 (by decide) wd_524 rfl pfI (Nat.le_of_ble_eq_true rfl) rfl dX9_foldAll_2 ?_
  refine J_aload_n (pc := 5) (x := 89) dX9_foldAll_5 rfl ?_
  refine J_iconst (pc := 6) (v := (1 : Int32)) dX9_foldAll_6 (by decide) ?_
  refine J_put (pc := 7) (t := 9) (k := 12) (ok_m hn 89 (by decide) rfl) (by decide) rfl ingX9 tyX9 tyX9_ok nmX9 (by decide) wd_525 rfl pfI (Nat.le_of_ble_eq_true rfl) rfl dX9_foldAll_7 ?_
  refine J_iconst (pc := 10) (v := (0 : Int32)) dX9_foldAll_10 (by decide) ?_
  refine J_istore_n (pc := 11) (ls' := [some (.ref 89), some (.int (0 : Int32)), none, none, none, none]) dX9_foldAll_11 (Nat.le_of_ble_eq_true rfl) rfl rfl ?_
  refine tl_X9_foldAll_12 hG hn (fun I7 => ?_) fuel (0 : Int32) (stm (stm I 89 11 (1 : Int32)) 89 12 (1 : Int32))
  · refine J_aload_n (pc := 78) (x := 89) dX9_foldAll_78 rfl ?_
    refine J_aload_n (pc := 79) (x := 89) dX9_foldAll_79 rfl ?_
    refine J_get (pc := 80) (t := 9) (k := 11) (.int (I7 89 11)) (ok_m hn 89 (by decide) rfl) (by decide) rfl ingX9 (by decide) wd_524 rfl dX9_foldAll_80 ?_
    refine J_put (pc := 83) (t := 9) (k := 16) (ok_m hn 89 (by decide) rfl) (by decide) rfl ingX9 tyX9 tyX9_ok nmX9 (by decide) wd_526 rfl pfI (Nat.le_of_ble_eq_true rfl) rfl dX9_foldAll_83 ?_
    refine J_aload_n (pc := 86) (x := 89) dX9_foldAll_86 rfl ?_
    refine J_get (pc := 87) (t := 9) (k := 11) (.int ((stm I7 89 16 (I7 89 11)) 89 11)) (ok_m hn 89 (by decide) rfl) (by decide) rfl ingX9 (by decide) wd_524 rfl dX9_foldAll_87 ?_
    refine J_aload_n (pc := 90) (x := 89) dX9_foldAll_90 rfl ?_
    refine J_get (pc := 91) (t := 9) (k := 12) (.int ((stm I7 89 16 (I7 89 11)) 89 12)) (ok_m hn 89 (by decide) rfl) (by decide) rfl ingX9 (by decide) wd_525 rfl dX9_foldAll_91 ?_
    refine J_imul (pc := 94) dX9_foldAll_94 ?_
    refine J_istore_n (pc := 95) (ls' := [some (.ref 89), some (.int (((stm I7 89 16 (I7 89 11)) 89 11) * ((stm I7 89 16 (I7 89 11)) 89 12))), none, none, none, none]) dX9_foldAll_95 (Nat.le_of_ble_eq_true rfl) rfl rfl ?_
    refine J_iconst (pc := 96) (v := (0 : Int32)) dX9_foldAll_96 (by decide) ?_
    refine J_istore_n (pc := 97) (ls' := [some (.ref 89), some (.int (((stm I7 89 16 (I7 89 11)) 89 11) * ((stm I7 89 16 (I7 89 11)) 89 12))), some (.int (0 : Int32)), none, none, none]) dX9_foldAll_97 (Nat.le_of_ble_eq_true rfl) rfl rfl ?_
    refine tl_X9_foldAll_98 hG hn (fun z10 I11 => ?_) fuel (((stm I7 89 16 (I7 89 11)) 89 11) * ((stm I7 89 16 (I7 89 11)) 89 12)) (0 : Int32) (stm I7 89 16 (I7 89 11))
    · refine J_iconst (pc := 124) (v := (0 : Int32)) dX9_foldAll_124 (by decide) ?_
      refine J_istore_n (pc := 125) (ls' := [some (.ref 89), some (.int z10), some (.int (0 : Int32)), none, none, none]) dX9_foldAll_125 (Nat.le_of_ble_eq_true rfl) rfl rfl ?_
      refine tl_X9_foldAll_126 hG hn (fun z14 I15 => ?_) fuel z10 (0 : Int32) I11
      · refine J_aload_n (pc := 153) (x := 89) dX9_foldAll_153 rfl ?_
        refine J_get (pc := 154) (t := 9) (k := 7) (.ref 94) (ok_m hn 89 (by decide) rfl) (by decide) rfl ingX9 (by decide) wd_523 rfl dX9_foldAll_154 ?_
        refine J_aload_n (pc := 157) (x := 89) dX9_foldAll_157 rfl ?_
        refine J_get (pc := 158) (t := 9) (k := 8) (.int (I15 89 8)) (ok_m hn 89 (by decide) rfl) (by decide) rfl ingX9 (by decide) wd_522 rfl dX9_foldAll_158 ?_
        refine J_iconst (pc := 161) (v := (1 : Int32)) dX9_foldAll_161 (by decide) ?_
        refine J_isub (pc := 162) dX9_foldAll_162 ?_
        refine J_ck (fun hc16 => ?_)
        refine J_ild (pc := 163) (t := 34) (k := (tn ((I15 89 8) - (1 : Int32)))) (ok_m hn 94 (by decide) rfl) iT_34 (inb_in hc16) rfl dX9_foldAll_163 ?_
        refine J_bipush (pc := 164) (v := (114 : Int32)) dX9_foldAll_164 (by decide) ?_
        refine J_icmp_ne (pc := 166) (tgt := 173) dX9_foldAll_166 (by decide) ?_ ?_
        · refine J_iconst (pc := 169) (v := (1 : Int32)) dX9_foldAll_169 (by decide) ?_
          refine J_goto (pc := 170) (tgt := 174) dX9_foldAll_170 (by decide) ?_
          refine J_istore_n (pc := 174) (ls' := [some (.ref 89), some (.int z14), some (.int (1 : Int32)), none, none, none]) dX9_foldAll_174 (Nat.le_of_ble_eq_true rfl) rfl rfl ?_
          refine J_iconst (pc := 175) (v := (0 : Int32)) dX9_foldAll_175 (by decide) ?_
          refine J_istore_n (pc := 176) (ls' := [some (.ref 89), some (.int z14), some (.int (1 : Int32)), some (.int (0 : Int32)), none, none]) dX9_foldAll_176 (Nat.le_of_ble_eq_true rfl) rfl rfl ?_
          refine tl_X9_foldAll_177 hG hn (fun I30 => ?_) fuel z14 (1 : Int32) (0 : Int32) I15
          · exact J_vret (pc := 282) dX9_foldAll_282
        · refine J_iconst (pc := 173) (v := (0 : Int32)) dX9_foldAll_173 (by decide) ?_
          refine J_istore_n (pc := 174) (ls' := [some (.ref 89), some (.int z14), some (.int (0 : Int32)), none, none, none]) dX9_foldAll_174 (Nat.le_of_ble_eq_true rfl) rfl rfl ?_
          refine J_iconst (pc := 175) (v := (0 : Int32)) dX9_foldAll_175 (by decide) ?_
          refine J_istore_n (pc := 176) (ls' := [some (.ref 89), some (.int z14), some (.int (0 : Int32)), some (.int (0 : Int32)), none, none]) dX9_foldAll_176 (Nat.le_of_ble_eq_true rfl) rfl rfl ?_
          refine tl_X9_foldAll_177 hG hn (fun I31 => ?_) fuel z14 (0 : Int32) (0 : Int32) I15
          · exact J_vret (pc := 282) dX9_foldAll_282
abbrev mu_X9_lays (G : Gt) : Mt Mem := mv G cX9_lays 3 yX9_lays.cls 3 80
def b_X9_lays_17 (K52 : Mem → Option Mem) (R : Int32 → Int32 → Mem → Option Mem) (x1 : Int32) (x2 : Int32) (I : Mem) : Option Mem :=
  (if (I 89 8) ≤ x2 then K52 I else ck (inb ((((8 : Int32) + ((5 : Int32) * x1)) + (1 : Int32)) + x2) 132) <| ck (inb x2 4) <| R x1 (x2 + (1 : Int32)) (stm I 94 (tn x2) (I 91 (tn ((((8 : Int32) + ((5 : Int32) * x1)) + (1 : Int32)) + x2)))))
def l_X9_lays_17 (K52 : Mem → Option Mem) : Nat → Int32 → Int32 → Mem → Option Mem := fx (b_X9_lays_17 K52) (fun _ _ _ => none)
def f_X9_lays (x1 : Int32) (I : Mem) : Option Mem :=
  ck (inb ((8 : Int32) + ((5 : Int32) * x1)) 132) <| l_X9_lays_17 (fun I4 => bV (f_X9_foldAll I4) fun I5 => some I5) fuel x1 (0 : Int32) (stm I 89 8 (I 91 (tn ((8 : Int32) + ((5 : Int32) * x1)))))
set_option maxRecDepth 100000 in
theorem tb_X9_lays_17 {G : Gt} (hG : Gok G) (hn : gn G = 104) {K52 : Mem → Option Mem} (hK52 : ∀ (I : Mem), J G (mu_X9_lays G) 52 [some (.ref 89), none, none] [] I (K52 I)) {R : Int32 → Int32 → Mem → Option Mem} (hR : ∀ (x1 : Int32) (x2 : Int32) (I : Mem), J G (mu_X9_lays G) 17 [some (.ref 89), some (.int x1), some (.int x2)] [] I (R x1 x2 I)) (x1 : Int32) (x2 : Int32) (I : Mem) : J G (mu_X9_lays G) 17 [some (.ref 89), some (.int x1), some (.int x2)] [] I (b_X9_lays_17 K52 R x1 x2 I) := by
  unfold b_X9_lays_17
  refine J_iload_n (pc := 17) (x := x2) dX9_lays_17 rfl ?_
  refine J_aload_n (pc := 18) (x := 89) dX9_lays_18 rfl ?_
  refine J_get (pc := 19) (t := 9) (k := 8) (.int (I 89 8)) (ok_m hn 89 (by decide) rfl) (by decide) rfl ingX9 (by decide) wd_522 rfl dX9_lays_19 ?_
  refine J_icmp_ge (pc := 22) (tgt := 52) dX9_lays_22 (by decide) ?_ ?_
  · refine J_weak (ls' := [some (.ref 89), none, none]) ⟨rfl, trivial⟩ ?_
    exact hK52 I
  · refine J_aload_n (pc := 25) (x := 89) dX9_lays_25 rfl ?_
    refine J_get (pc := 26) (t := 9) (k := 7) (.ref 94) (ok_m hn 89 (by decide) rfl) (by decide) rfl ingX9 (by decide) wd_523 rfl dX9_lays_26 ?_
    refine J_iload_n (pc := 29) (x := x2) dX9_lays_29 rfl ?_
    refine J_aload_n (pc := 30) (x := 89) dX9_lays_30 rfl ?_
    refine J_get (pc := 31) (t := 9) (k := 2) (.ref 91) (ok_m hn 89 (by decide) rfl) (by decide) rfl ingX9 (by decide) wd_467 rfl dX9_lays_31 ?_
    refine J_bipush (pc := 34) (v := (8 : Int32)) dX9_lays_34 (by decide) ?_
    refine J_iconst (pc := 36) (v := (5 : Int32)) dX9_lays_36 (by decide) ?_
    refine J_iload_n (pc := 37) (x := x1) dX9_lays_37 rfl ?_
    refine J_imul (pc := 38) dX9_lays_38 ?_
    refine J_iadd (pc := 39) dX9_lays_39 ?_
    refine J_iconst (pc := 40) (v := (1 : Int32)) dX9_lays_40 (by decide) ?_
    refine J_iadd (pc := 41) dX9_lays_41 ?_
    refine J_iload_n (pc := 42) (x := x2) dX9_lays_42 rfl ?_
    refine J_iadd (pc := 43) dX9_lays_43 ?_
    refine J_ck (fun hc2 => ?_)
    refine J_ild (pc := 44) (t := 31) (k := (tn ((((8 : Int32) + ((5 : Int32) * x1)) + (1 : Int32)) + x2))) (ok_m hn 91 (by decide) rfl) iT_31 (inb_in hc2) rfl dX9_lays_44 ?_
    refine J_ck (fun hc3 => ?_)
    refine J_ist (pc := 45) (t := 34) (k := (tn x2)) (ok_m hn 94 (by decide) rfl) iT_34 (inb_in hc3) rfl dX9_lays_45 ?_
    refine J_iinc (pc := 46) (d := (1 : Int32)) (ls' := [some (.ref 89), some (.int x1), some (.int (x2 + (1 : Int32)))]) dX9_lays_46 (by decide) rfl (Nat.le_of_ble_eq_true rfl) rfl rfl ?_
    refine J_goto (pc := 49) (tgt := 17) dX9_lays_49 (by decide) ?_
    exact hR x1 (x2 + (1 : Int32)) (stm I 94 (tn x2) (I 91 (tn ((((8 : Int32) + ((5 : Int32) * x1)) + (1 : Int32)) + x2))))
theorem tl_X9_lays_17 {G : Gt} (hG : Gok G) (hn : gn G = 104) {K52 : Mem → Option Mem} (hK52 : ∀ (I : Mem), J G (mu_X9_lays G) 52 [some (.ref 89), none, none] [] I (K52 I)) (n : Nat) : ∀ (x1 : Int32) (x2 : Int32) (I : Mem), J G (mu_X9_lays G) 17 [some (.ref 89), some (.int x1), some (.int x2)] [] I (l_X9_lays_17 K52 n x1 x2 I) := by
  induction n with
  | zero => intro x1 x2 I; exact J_none
  | succ n ih => intro x1 x2 I; exact tb_X9_lays_17 hG hn hK52 ih x1 x2 I
set_option maxRecDepth 100000 in
theorem c_X9_lays {G : Gt} (hG : Gok G) (hn : gn G = 104) (x1 : Int32) (I : Mem) : Ctv G yX9_lays cX9_lays 3 3 80 [.ref 89, .int x1] I (f_X9_lays x1 I) := by
  refine Ctv.of (ls := [some (.ref 89), some (.int x1), none]) 1 hG (by decide) rfl (Nat.le_of_ble_eq_true rfl) ?_
  unfold f_X9_lays
  refine J_aload_n (pc := 0) (x := 89) dX9_lays_0 rfl ?_
  refine J_aload_n (pc := 1) (x := 89) dX9_lays_1 rfl ?_
  refine J_get (pc := 2) (t := 9) (k := 2) (.ref 91) (ok_m hn 89 (by decide) rfl) (by decide) rfl ingX9 (by decide) wd_467 rfl dX9_lays_2 ?_
  refine J_bipush (pc := 5) (v := (8 : Int32)) dX9_lays_5 (by decide) ?_
  refine J_iconst (pc := 7) (v := (5 : Int32)) dX9_lays_7 (by decide) ?_
  refine J_iload_n (pc := 8) (x := x1) dX9_lays_8 rfl ?_
  refine J_imul (pc := 9) dX9_lays_9 ?_
  refine J_iadd (pc := 10) dX9_lays_10 ?_
  refine J_ck (fun hc1 => ?_)
  refine J_ild (pc := 11) (t := 31) (k := (tn ((8 : Int32) + ((5 : Int32) * x1)))) (ok_m hn 91 (by decide) rfl) iT_31 (inb_in hc1) rfl dX9_lays_11 ?_
  refine J_put (pc := 12) (t := 9) (k := 8) (ok_m hn 89 (by decide) rfl) (by decide) rfl ingX9 tyX9 tyX9_ok nmX9 (by decide) wd_522 rfl pfI (Nat.le_of_ble_eq_true rfl) rfl dX9_lays_12 ?_
  refine J_iconst (pc := 15) (v := (0 : Int32)) dX9_lays_15 (by decide) ?_
  refine J_istore_n (pc := 16) (ls' := [some (.ref 89), some (.int x1), some (.int (0 : Int32))]) dX9_lays_16 (Nat.le_of_ble_eq_true rfl) rfl rfl ?_
  refine tl_X9_lays_17 hG hn (fun I4 => ?_) fuel x1 (0 : Int32) (stm I 89 8 (I 91 (tn ((8 : Int32) + ((5 : Int32) * x1)))))
  · refine J_aload_n (pc := 52) (x := 89) dX9_lays_52 rfl ?_
    refine J_callVv (pc := 53) (t := 9) (as := []) (st := []) (c_X9_foldAll hG hn I4) (ok_m hn 89 (by decide) rfl) (by decide) rfl (cw_RX9_130 rfl) wd_537 wd_536 rfl ⟨Nat.le_of_ble_eq_true rfl, Nat.le_of_ble_eq_true rfl, Nat.le_of_ble_eq_true rfl, Nat.le_of_ble_eq_true rfl⟩ (Nat.le_of_ble_eq_true rfl) rfl dX9_lays_53 (fun I5 => ?_)
    exact J_vret (pc := 56) dX9_lays_56
abbrev mu_X9_pageAt (G : Gt) : Mt (Int32 × Mem) := mi G cX9_pageAt 4 yX9_pageAt.cls (some .int) 0 0
def b_X9_pageAt_2 (K28 : Int32 → Mem → Option (Int32 × Mem)) (R : Int32 → Int32 → Int32 → Mem → Option (Int32 × Mem)) (x1 : Int32) (x2 : Int32) (x3 : Int32) (I : Mem) : Option (Int32 × Mem) :=
  ck (inb x3 32) <| (if (I 97 (tn x3)) = x2 then ck (inb x3 32) <| (if (I 98 (tn x3)) = x1 then K28 x3 I else R x1 x2 (x3 + (1 : Int32)) I) else R x1 x2 (x3 + (1 : Int32)) I)
def l_X9_pageAt_2 (K28 : Int32 → Mem → Option (Int32 × Mem)) : Nat → Int32 → Int32 → Int32 → Mem → Option (Int32 × Mem) := fx (b_X9_pageAt_2 K28) (fun _ _ _ _ => none)
def f_X9_pageAt (x1 : Int32) (x2 : Int32) (I : Mem) : Option (Int32 × Mem) :=
  l_X9_pageAt_2 (fun (z3 : Int32) I4 => some ((z3 + (1 : Int32)), I4)) fuel x1 x2 (0 : Int32) I
set_option maxRecDepth 100000 in
theorem tb_X9_pageAt_2 {G : Gt} (hG : Gok G) (hn : gn G = 104) {K28 : Int32 → Mem → Option (Int32 × Mem)} (hK28 : ∀ (x3 : Int32) (I : Mem), J G (mu_X9_pageAt G) 28 [none, none, none, some (.int x3)] [] I (K28 x3 I)) {R : Int32 → Int32 → Int32 → Mem → Option (Int32 × Mem)} (hR : ∀ (x1 : Int32) (x2 : Int32) (x3 : Int32) (I : Mem), J G (mu_X9_pageAt G) 2 [some (.ref 89), some (.int x1), some (.int x2), some (.int x3)] [] I (R x1 x2 x3 I)) (x1 : Int32) (x2 : Int32) (x3 : Int32) (I : Mem) : J G (mu_X9_pageAt G) 2 [some (.ref 89), some (.int x1), some (.int x2), some (.int x3)] [] I (b_X9_pageAt_2 K28 R x1 x2 x3 I) := by
  unfold b_X9_pageAt_2
  refine J_aload_n (pc := 2) (x := 89) dX9_pageAt_2 rfl ?_
  refine J_get (pc := 3) (t := 9) (k := 13) (.ref 97) (ok_m hn 89 (by decide) rfl) (by decide) rfl ingX9 (by decide) wd_533 rfl dX9_pageAt_3 ?_
  refine J_iload_n (pc := 6) (x := x3) dX9_pageAt_6 rfl ?_
  refine J_ck (fun hc1 => ?_)
  refine J_ild (pc := 7) (t := 37) (k := (tn x3)) (ok_m hn 97 (by decide) rfl) iT_37 (inb_in hc1) rfl dX9_pageAt_7 ?_
  refine J_iload_n (pc := 8) (x := x2) dX9_pageAt_8 rfl ?_
  refine J_icmp_ne (pc := 9) (tgt := 22) dX9_pageAt_9 (by decide) ?_ ?_
  · refine J_aload_n (pc := 12) (x := 89) dX9_pageAt_12 rfl ?_
    refine J_get (pc := 13) (t := 9) (k := 14) (.ref 98) (ok_m hn 89 (by decide) rfl) (by decide) rfl ingX9 (by decide) wd_534 rfl dX9_pageAt_13 ?_
    refine J_iload_n (pc := 16) (x := x3) dX9_pageAt_16 rfl ?_
    refine J_ck (fun hc2 => ?_)
    refine J_ild (pc := 17) (t := 38) (k := (tn x3)) (ok_m hn 98 (by decide) rfl) iT_38 (inb_in hc2) rfl dX9_pageAt_17 ?_
    refine J_iload_n (pc := 18) (x := x1) dX9_pageAt_18 rfl ?_
    refine J_icmp_eq (pc := 19) (tgt := 28) dX9_pageAt_19 (by decide) ?_ ?_
    · refine J_weak (ls' := [none, none, none, some (.int x3)]) ⟨rfl, trivial⟩ ?_
      exact hK28 x3 I
    · refine J_iinc (pc := 22) (d := (1 : Int32)) (ls' := [some (.ref 89), some (.int x1), some (.int x2), some (.int (x3 + (1 : Int32)))]) dX9_pageAt_22 (by decide) rfl (Nat.le_of_ble_eq_true rfl) rfl rfl ?_
      refine J_goto (pc := 25) (tgt := 2) dX9_pageAt_25 (by decide) ?_
      exact hR x1 x2 (x3 + (1 : Int32)) I
  · refine J_iinc (pc := 22) (d := (1 : Int32)) (ls' := [some (.ref 89), some (.int x1), some (.int x2), some (.int (x3 + (1 : Int32)))]) dX9_pageAt_22 (by decide) rfl (Nat.le_of_ble_eq_true rfl) rfl rfl ?_
    refine J_goto (pc := 25) (tgt := 2) dX9_pageAt_25 (by decide) ?_
    exact hR x1 x2 (x3 + (1 : Int32)) I
theorem tl_X9_pageAt_2 {G : Gt} (hG : Gok G) (hn : gn G = 104) {K28 : Int32 → Mem → Option (Int32 × Mem)} (hK28 : ∀ (x3 : Int32) (I : Mem), J G (mu_X9_pageAt G) 28 [none, none, none, some (.int x3)] [] I (K28 x3 I)) (n : Nat) : ∀ (x1 : Int32) (x2 : Int32) (x3 : Int32) (I : Mem), J G (mu_X9_pageAt G) 2 [some (.ref 89), some (.int x1), some (.int x2), some (.int x3)] [] I (l_X9_pageAt_2 K28 n x1 x2 x3 I) := by
  induction n with
  | zero => intro x1 x2 x3 I; exact J_none
  | succ n ih => intro x1 x2 x3 I; exact tb_X9_pageAt_2 hG hn hK28 ih x1 x2 x3 I
set_option maxRecDepth 100000 in
theorem c_X9_pageAt {G : Gt} (hG : Gok G) (hn : gn G = 104) (x1 : Int32) (x2 : Int32) (I : Mem) : Cti G yX9_pageAt cX9_pageAt 4 (some .int) 0 0 [.ref 89, .int x1, .int x2] I (f_X9_pageAt x1 x2 I) := by
  refine Cti.of (ls := [some (.ref 89), some (.int x1), some (.int x2), none]) 1 hG (by decide) rfl (Nat.le_of_ble_eq_true rfl) ?_
  unfold f_X9_pageAt
  refine J_iconst (pc := 0) (v := (0 : Int32)) dX9_pageAt_0 (by decide) ?_
  refine J_istore_n (pc := 1) (ls' := [some (.ref 89), some (.int x1), some (.int x2), some (.int (0 : Int32))]) dX9_pageAt_1 (Nat.le_of_ble_eq_true rfl) rfl rfl ?_
  refine tl_X9_pageAt_2 hG hn (fun z3 I4 => ?_) fuel x1 x2 (0 : Int32) I
  · refine J_iload_n (pc := 28) (x := z3) dX9_pageAt_28 rfl ?_
    refine J_iconst (pc := 29) (v := (1 : Int32)) dX9_pageAt_29 (by decide) ?_
    refine J_iadd (pc := 30) dX9_pageAt_30 ?_
    exact J_iret (pc := 31) dX9_pageAt_31
abbrev mu_X9_page (G : Gt) : Mt (Int32 × Mem) := mi G cX9_page 5 yX9_page.cls (some .int) 4 102
def f_X9_page (x1 : Int32) (x2 : Int32) (x3 : Int32) (x4 : Int32) (I : Mem) : Option (Int32 × Mem) :=
  bI (f_X9_isScheme x1 I) fun r2 I1 => (if r2 = 0 then some ((-1 : Int32), I1) else bI (f_X9_in ((x2).toInt64) (0 : Int64) (1 : Int64) I1) fun r4 I3 => (if r4 = 0 then some ((-1 : Int32), I3) else bV (f_X9_lays x1 I3) fun I5 => bI (f_X9_in ((x3).toInt64) (0 : Int64) ((((I5 89 16) - (1 : Int32))).toInt64) I5) fun r7 I6 => (if r7 = 0 then some ((-1 : Int32), I6) else bI (f_X9_pagesOf x1 I6) fun r9 I8 => ck (!((I8 89 16) == 0)) <| bI (f_X9_in ((x4).toInt64) (0 : Int64) (((((r9 / (2 : Int32)) / (I8 89 16)) - (1 : Int32))).toInt64) I8) fun r12 I11 => (if r12 = 0 then some ((-1 : Int32), I11) else bI (f_X9_pageAt x2 ((x4 * (I11 89 16)) + x3) I11) fun r14 I13 => some (r14, I13)))))
set_option maxRecDepth 100000 in
theorem c_X9_page {G : Gt} (hG : Gok G) (hn : gn G = 104) (x1 : Int32) (x2 : Int32) (x3 : Int32) (x4 : Int32) (I : Mem) : Cti G yX9_page cX9_page 5 (some .int) 4 102 [.ref 89, .int x1, .int x2, .int x3, .int x4] I (f_X9_page x1 x2 x3 x4 I) := by
  refine Cti.of (ls := [some (.ref 89), some (.int x1), some (.int x2), some (.int x3), some (.int x4)]) 0 hG (by decide) rfl (Nat.le_of_ble_eq_true rfl) ?_
  unfold f_X9_page
  refine J_aload_n (pc := 0) (x := 89) dX9_page_0 rfl ?_
  refine J_iload_n (pc := 1) (x := x1) dX9_page_1 rfl ?_
  refine J_callVi (pc := 2) (t := 9) (as := [.int x1]) (st := []) (c_X9_isScheme hG hn x1 I) (ok_m hn 89 (by decide) rfl) (by decide) rfl (cw_RX9_122 rfl) wd_485 wd_484 rfl ⟨Nat.le_of_ble_eq_true rfl, Nat.le_of_ble_eq_true rfl, Nat.le_of_ble_eq_true rfl, Nat.le_of_ble_eq_true rfl⟩ (Nat.le_of_ble_eq_true rfl) rfl dX9_page_2 (fun r2 I1 => ?_)
  refine J_if_eq (pc := 5) (tgt := 18) dX9_page_5 (by decide) ?_ ?_
  · refine J_iconst (pc := 18) (v := (-1 : Int32)) dX9_page_18 (by decide) ?_
    exact J_iret (pc := 19) dX9_page_19
  · refine J_iload_n (pc := 8) (x := x2) dX9_page_8 rfl ?_
    refine J_i2l (pc := 9) dX9_page_9 ?_
    refine J_lconst (pc := 10) (v := (0 : Int64)) dX9_page_10 (by decide) ?_
    refine J_lconst (pc := 11) (v := (1 : Int64)) dX9_page_11 (by decide) ?_
    refine J_callSi (pc := 12) (as := [.long ((x2).toInt64), .long (0 : Int64), .long (1 : Int64)]) (st := []) (c_X9_in hG hn ((x2).toInt64) (0 : Int64) (1 : Int64) I1) (cw_RX9_57 rfl) wd_425 rfl ⟨Nat.le_of_ble_eq_true rfl, Nat.le_of_ble_eq_true rfl, Nat.le_of_ble_eq_true rfl, Nat.le_of_ble_eq_true rfl⟩ (Nat.le_of_ble_eq_true rfl) rfl dX9_page_12 (fun r4 I3 => ?_)
    refine J_if_ne (pc := 15) (tgt := 20) dX9_page_15 (by decide) ?_ ?_
    · refine J_iconst (pc := 18) (v := (-1 : Int32)) dX9_page_18 (by decide) ?_
      exact J_iret (pc := 19) dX9_page_19
    · refine J_aload_n (pc := 20) (x := 89) dX9_page_20 rfl ?_
      refine J_iload_n (pc := 21) (x := x1) dX9_page_21 rfl ?_
      refine J_callVv (pc := 22) (t := 9) (as := [.int x1]) (st := []) (c_X9_lays hG hn x1 I3) (ok_m hn 89 (by decide) rfl) (by decide) rfl (cw_RX9_160 rfl) wd_541 wd_540 rfl ⟨Nat.le_of_ble_eq_true rfl, Nat.le_of_ble_eq_true rfl, Nat.le_of_ble_eq_true rfl, Nat.le_of_ble_eq_true rfl⟩ (Nat.le_of_ble_eq_true rfl) rfl dX9_page_22 (fun I5 => ?_)
      refine J_iload_n (pc := 25) (x := x3) dX9_page_25 rfl ?_
      refine J_i2l (pc := 26) dX9_page_26 ?_
      refine J_lconst (pc := 27) (v := (0 : Int64)) dX9_page_27 (by decide) ?_
      refine J_aload_n (pc := 28) (x := 89) dX9_page_28 rfl ?_
      refine J_get (pc := 29) (t := 9) (k := 16) (.int (I5 89 16)) (ok_m hn 89 (by decide) rfl) (by decide) rfl ingX9 (by decide) wd_526 rfl dX9_page_29 ?_
      refine J_iconst (pc := 32) (v := (1 : Int32)) dX9_page_32 (by decide) ?_
      refine J_isub (pc := 33) dX9_page_33 ?_
      refine J_i2l (pc := 34) dX9_page_34 ?_
      refine J_callSi (pc := 35) (as := [.long ((x3).toInt64), .long (0 : Int64), .long ((((I5 89 16) - (1 : Int32))).toInt64)]) (st := []) (c_X9_in hG hn ((x3).toInt64) (0 : Int64) ((((I5 89 16) - (1 : Int32))).toInt64) I5) (cw_RX9_57 rfl) wd_425 rfl ⟨Nat.le_of_ble_eq_true rfl, Nat.le_of_ble_eq_true rfl, Nat.le_of_ble_eq_true rfl, Nat.le_of_ble_eq_true rfl⟩ (Nat.le_of_ble_eq_true rfl) rfl dX9_page_35 (fun r7 I6 => ?_)
      refine J_if_eq (pc := 38) (tgt := 66) dX9_page_38 (by decide) ?_ ?_
      · refine J_iconst (pc := 66) (v := (-1 : Int32)) dX9_page_66 (by decide) ?_
        exact J_iret (pc := 67) dX9_page_67
      · refine J_iload (pc := 41) (x := x4) dX9_page_41 rfl ?_
        refine J_i2l (pc := 43) dX9_page_43 ?_
        refine J_lconst (pc := 44) (v := (0 : Int64)) dX9_page_44 (by decide) ?_
        refine J_aload_n (pc := 45) (x := 89) dX9_page_45 rfl ?_
        refine J_iload_n (pc := 46) (x := x1) dX9_page_46 rfl ?_
        refine J_callVi (pc := 47) (t := 9) (as := [.int x1]) (st := [.long (0 : Int64), .long ((x4).toInt64)]) (c_X9_pagesOf hG hn x1 I6) (ok_m hn 89 (by decide) rfl) (by decide) rfl (cw_RX9_151 rfl) wd_495 wd_494 rfl ⟨Nat.le_of_ble_eq_true rfl, Nat.le_of_ble_eq_true rfl, Nat.le_of_ble_eq_true rfl, Nat.le_of_ble_eq_true rfl⟩ (Nat.le_of_ble_eq_true rfl) rfl dX9_page_47 (fun r9 I8 => ?_)
        refine J_iconst (pc := 50) (v := (2 : Int32)) dX9_page_50 (by decide) ?_
        refine J_idiv (pc := 51) dX9_page_51 (by decide) ?_
        refine J_aload_n (pc := 52) (x := 89) dX9_page_52 rfl ?_
        refine J_get (pc := 53) (t := 9) (k := 16) (.int (I8 89 16)) (ok_m hn 89 (by decide) rfl) (by decide) rfl ingX9 (by decide) wd_526 rfl dX9_page_53 ?_
        refine J_ck (fun hc10 => ?_)
        refine J_idiv (pc := 56) dX9_page_56 (nz hc10) ?_
        refine J_iconst (pc := 57) (v := (1 : Int32)) dX9_page_57 (by decide) ?_
        refine J_isub (pc := 58) dX9_page_58 ?_
        refine J_i2l (pc := 59) dX9_page_59 ?_
        refine J_callSi (pc := 60) (as := [.long ((x4).toInt64), .long (0 : Int64), .long (((((r9 / (2 : Int32)) / (I8 89 16)) - (1 : Int32))).toInt64)]) (st := []) (c_X9_in hG hn ((x4).toInt64) (0 : Int64) (((((r9 / (2 : Int32)) / (I8 89 16)) - (1 : Int32))).toInt64) I8) (cw_RX9_57 rfl) wd_425 rfl ⟨Nat.le_of_ble_eq_true rfl, Nat.le_of_ble_eq_true rfl, Nat.le_of_ble_eq_true rfl, Nat.le_of_ble_eq_true rfl⟩ (Nat.le_of_ble_eq_true rfl) rfl dX9_page_60 (fun r12 I11 => ?_)
        refine J_if_ne (pc := 63) (tgt := 68) dX9_page_63 (by decide) ?_ ?_
        · refine J_iconst (pc := 66) (v := (-1 : Int32)) dX9_page_66 (by decide) ?_
          exact J_iret (pc := 67) dX9_page_67
        · refine J_aload_n (pc := 68) (x := 89) dX9_page_68 rfl ?_
          refine J_iload_n (pc := 69) (x := x2) dX9_page_69 rfl ?_
          refine J_iload (pc := 70) (x := x4) dX9_page_70 rfl ?_
          refine J_aload_n (pc := 72) (x := 89) dX9_page_72 rfl ?_
          refine J_get (pc := 73) (t := 9) (k := 16) (.int (I11 89 16)) (ok_m hn 89 (by decide) rfl) (by decide) rfl ingX9 (by decide) wd_526 rfl dX9_page_73 ?_
          refine J_imul (pc := 76) dX9_page_76 ?_
          refine J_iload_n (pc := 77) (x := x3) dX9_page_77 rfl ?_
          refine J_iadd (pc := 78) dX9_page_78 ?_
          refine J_callVi (pc := 79) (t := 9) (as := [.int x2, .int ((x4 * (I11 89 16)) + x3)]) (st := []) (c_X9_pageAt hG hn x2 ((x4 * (I11 89 16)) + x3) I11) (ok_m hn 89 (by decide) rfl) (by decide) rfl (cw_RX9_163 rfl) wd_545 wd_544 rfl ⟨Nat.le_of_ble_eq_true rfl, Nat.le_of_ble_eq_true rfl, Nat.le_of_ble_eq_true rfl, Nat.le_of_ble_eq_true rfl⟩ (Nat.le_of_ble_eq_true rfl) rfl dX9_page_79 (fun r14 I13 => ?_)
          exact J_iret (pc := 82) dX9_page_82
abbrev mu_X9_where (G : Gt) : Mt (Int32 × Mem) := mi G cX9_where 8 yX9_where.cls (some .int) 4 102
def j_X9_where_96 (x3 : Int32) (x4 : Int32) (x5 : Int32) (x6 : Int32) (y0 : Int32) (I : Mem) : Option (Int32 × Mem) :=
  (if x3 = (0 : Int32) then ck (inb x4 32) <| some ((I 98 (tn x4)), I) else (if x3 = (1 : Int32) then some (x5, I) else (if x3 = (2 : Int32) then some (x6, I) else (if x3 = (3 : Int32) then ck (inb x4 32) <| some ((I 99 (tn x4)), I) else (if x3 = (4 : Int32) then some (((x4 ^^^ (1 : Int32)) + (1 : Int32)), I) else bI (f_X9_in ((y0).toInt64) (0 : Int64) ((((I 89 16) - (1 : Int32))).toInt64) I) fun r23 I22 => (if r23 = 0 then some ((-4 : Int32), I22) else ck (inb x4 32) <| bI (f_X9_pageAt (I22 98 (tn x4)) ((x6 * (I22 89 16)) + y0) I22) fun r26 I25 => some (r26, I25)))))))
def f_X9_where (x1 : Int32) (x2 : Int32) (x3 : Int32) (I : Mem) : Option (Int32 × Mem) :=
  bI (f_X9_isScheme x1 I) fun r2 I1 => (if r2 = 0 then some ((-1 : Int32), I1) else bI (f_X9_pagesOf x1 I1) fun r4 I3 => bI (f_X9_in ((x2).toInt64) (1 : Int64) ((r4).toInt64) I3) fun r6 I5 => (if r6 = 0 then some ((-1 : Int32), I5) else bI (f_X9_in ((x3).toInt64) (0 : Int64) (5 : Int64) I5) fun r8 I7 => (if r8 = 0 then some ((-1 : Int32), I7) else bV (f_X9_lays x1 I7) fun I9 => ck (inb (x2 - (1 : Int32)) 32) <| ck (!((I9 89 16) == 0)) <| ck (inb (x2 - (1 : Int32)) 32) <| ck (!((I9 89 16) == 0)) <| ck (inb (x2 - (1 : Int32)) 32) <| (if (I9 98 (tn (x2 - (1 : Int32)))) = 0 then j_X9_where_96 x3 (x2 - (1 : Int32)) ((I9 97 (tn (x2 - (1 : Int32)))) - (I9 97 (tn (x2 - (1 : Int32)))) / (I9 89 16) * (I9 89 16)) ((I9 97 (tn (x2 - (1 : Int32)))) / (I9 89 16)) (((I9 97 (tn (x2 - (1 : Int32)))) - (I9 97 (tn (x2 - (1 : Int32)))) / (I9 89 16) * (I9 89 16)) + (1 : Int32)) I9 else j_X9_where_96 x3 (x2 - (1 : Int32)) ((I9 97 (tn (x2 - (1 : Int32)))) - (I9 97 (tn (x2 - (1 : Int32)))) / (I9 89 16) * (I9 89 16)) ((I9 97 (tn (x2 - (1 : Int32)))) / (I9 89 16)) (((I9 97 (tn (x2 - (1 : Int32)))) - (I9 97 (tn (x2 - (1 : Int32)))) / (I9 89 16) * (I9 89 16)) - (1 : Int32)) I9))))
set_option maxRecDepth 100000 in
theorem tj_X9_where_96 {G : Gt} (hG : Gok G) (hn : gn G = 104) (x3 : Int32) (x4 : Int32) (x5 : Int32) (x6 : Int32) (y0 : Int32) (I : Mem) : J G (mu_X9_where G) 96 [some (.ref 89), none, none, some (.int x3), some (.int x4), some (.int x5), some (.int x6), none] [.int y0] I (j_X9_where_96 x3 x4 x5 x6 y0 I) := by
  unfold j_X9_where_96
  refine J_istore (pc := 96) (ls' := [some (.ref 89), none, none, some (.int x3), some (.int x4), some (.int x5), some (.int x6), some (.int y0)]) dX9_where_96 (Nat.le_of_ble_eq_true rfl) rfl rfl ?_
  refine J_iload_n (pc := 98) (x := x3) dX9_where_98 rfl ?_
  refine J_ite (fun hq15 => ?_) (fun hq15 => ?_)
  · refine J_tblIn (pc := 99) (off := 33) (tgt := 132) dX9_where_99 (by rw [hq15]; decide) (by rw [hq15]; decide) (by rw [hq15]; decide) (by decide) ?_
    refine J_aload_n (pc := 132) (x := 89) dX9_where_132 rfl ?_
    refine J_get (pc := 133) (t := 9) (k := 14) (.ref 98) (ok_m hn 89 (by decide) rfl) (by decide) rfl ingX9 (by decide) wd_534 rfl dX9_where_133 ?_
    refine J_iload (pc := 136) (x := x4) dX9_where_136 rfl ?_
    refine J_ck (fun hc16 => ?_)
    refine J_ild (pc := 138) (t := 38) (k := (tn x4)) (ok_m hn 98 (by decide) rfl) iT_38 (inb_in hc16) rfl dX9_where_138 ?_
    exact J_iret (pc := 139) dX9_where_139
  refine J_ite (fun hq17 => ?_) (fun hq17 => ?_)
  · refine J_tblIn (pc := 99) (off := 41) (tgt := 140) dX9_where_99 (by rw [hq17]; decide) (by rw [hq17]; decide) (by rw [hq17]; decide) (by decide) ?_
    refine J_iload (pc := 140) (x := x5) dX9_where_140 rfl ?_
    exact J_iret (pc := 142) dX9_where_142
  refine J_ite (fun hq18 => ?_) (fun hq18 => ?_)
  · refine J_tblIn (pc := 99) (off := 44) (tgt := 143) dX9_where_99 (by rw [hq18]; decide) (by rw [hq18]; decide) (by rw [hq18]; decide) (by decide) ?_
    refine J_iload (pc := 143) (x := x6) dX9_where_143 rfl ?_
    exact J_iret (pc := 145) dX9_where_145
  refine J_ite (fun hq19 => ?_) (fun hq19 => ?_)
  · refine J_tblIn (pc := 99) (off := 47) (tgt := 146) dX9_where_99 (by rw [hq19]; decide) (by rw [hq19]; decide) (by rw [hq19]; decide) (by decide) ?_
    refine J_aload_n (pc := 146) (x := 89) dX9_where_146 rfl ?_
    refine J_get (pc := 147) (t := 9) (k := 15) (.ref 99) (ok_m hn 89 (by decide) rfl) (by decide) rfl ingX9 (by decide) wd_535 rfl dX9_where_147 ?_
    refine J_iload (pc := 150) (x := x4) dX9_where_150 rfl ?_
    refine J_ck (fun hc20 => ?_)
    refine J_ild (pc := 152) (t := 39) (k := (tn x4)) (ok_m hn 99 (by decide) rfl) iT_39 (inb_in hc20) rfl dX9_where_152 ?_
    exact J_iret (pc := 153) dX9_where_153
  refine J_ite (fun hq21 => ?_) (fun hq21 => ?_)
  · refine J_tblIn (pc := 99) (off := 55) (tgt := 154) dX9_where_99 (by rw [hq21]; decide) (by rw [hq21]; decide) (by rw [hq21]; decide) (by decide) ?_
    refine J_iload (pc := 154) (x := x4) dX9_where_154 rfl ?_
    refine J_iconst (pc := 156) (v := (1 : Int32)) dX9_where_156 (by decide) ?_
    refine J_ixor (pc := 157) dX9_where_157 ?_
    refine J_iconst (pc := 158) (v := (1 : Int32)) dX9_where_158 (by decide) ?_
    refine J_iadd (pc := 159) dX9_where_159 ?_
    exact J_iret (pc := 160) dX9_where_160
  refine J_tblOut (pc := 99) (tgt := 161) dX9_where_99 (by have e0 := ne_int hq15 (show ((0 : Int32)).toInt = 0 by decide); have e1 := ne_int hq17 (show ((1 : Int32)).toInt = 1 by decide); have e2 := ne_int hq18 (show ((2 : Int32)).toInt = 2 by decide); have e3 := ne_int hq19 (show ((3 : Int32)).toInt = 3 by decide); have e4 := ne_int hq21 (show ((4 : Int32)).toInt = 4 by decide); omega) (by decide) ?_
  refine J_iload (pc := 161) (x := y0) dX9_where_161 rfl ?_
  refine J_i2l (pc := 163) dX9_where_163 ?_
  refine J_lconst (pc := 164) (v := (0 : Int64)) dX9_where_164 (by decide) ?_
  refine J_aload_n (pc := 165) (x := 89) dX9_where_165 rfl ?_
  refine J_get (pc := 166) (t := 9) (k := 16) (.int (I 89 16)) (ok_m hn 89 (by decide) rfl) (by decide) rfl ingX9 (by decide) wd_526 rfl dX9_where_166 ?_
  refine J_iconst (pc := 169) (v := (1 : Int32)) dX9_where_169 (by decide) ?_
  refine J_isub (pc := 170) dX9_where_170 ?_
  refine J_i2l (pc := 171) dX9_where_171 ?_
  refine J_callSi (pc := 172) (as := [.long ((y0).toInt64), .long (0 : Int64), .long ((((I 89 16) - (1 : Int32))).toInt64)]) (st := []) (c_X9_in hG hn ((y0).toInt64) (0 : Int64) ((((I 89 16) - (1 : Int32))).toInt64) I) (cw_RX9_57 rfl) wd_425 rfl ⟨Nat.le_of_ble_eq_true rfl, Nat.le_of_ble_eq_true rfl, Nat.le_of_ble_eq_true rfl, Nat.le_of_ble_eq_true rfl⟩ (Nat.le_of_ble_eq_true rfl) rfl dX9_where_172 (fun r23 I22 => ?_)
  refine J_if_eq (pc := 175) (tgt := 202) dX9_where_175 (by decide) ?_ ?_
  · refine J_bipush (pc := 202) (v := (-4 : Int32)) dX9_where_202 (by decide) ?_
    exact J_iret (pc := 204) dX9_where_204
  · refine J_aload_n (pc := 178) (x := 89) dX9_where_178 rfl ?_
    refine J_aload_n (pc := 179) (x := 89) dX9_where_179 rfl ?_
    refine J_get (pc := 180) (t := 9) (k := 14) (.ref 98) (ok_m hn 89 (by decide) rfl) (by decide) rfl ingX9 (by decide) wd_534 rfl dX9_where_180 ?_
    refine J_iload (pc := 183) (x := x4) dX9_where_183 rfl ?_
    refine J_ck (fun hc24 => ?_)
    refine J_ild (pc := 185) (t := 38) (k := (tn x4)) (ok_m hn 98 (by decide) rfl) iT_38 (inb_in hc24) rfl dX9_where_185 ?_
    refine J_iload (pc := 186) (x := x6) dX9_where_186 rfl ?_
    refine J_aload_n (pc := 188) (x := 89) dX9_where_188 rfl ?_
    refine J_get (pc := 189) (t := 9) (k := 16) (.int (I22 89 16)) (ok_m hn 89 (by decide) rfl) (by decide) rfl ingX9 (by decide) wd_526 rfl dX9_where_189 ?_
    refine J_imul (pc := 192) dX9_where_192 ?_
    refine J_iload (pc := 193) (x := y0) dX9_where_193 rfl ?_
    refine J_iadd (pc := 195) dX9_where_195 ?_
    refine J_callVi (pc := 196) (t := 9) (as := [.int (I22 98 (tn x4)), .int ((x6 * (I22 89 16)) + y0)]) (st := []) (c_X9_pageAt hG hn (I22 98 (tn x4)) ((x6 * (I22 89 16)) + y0) I22) (ok_m hn 89 (by decide) rfl) (by decide) rfl (cw_RX9_163 rfl) wd_545 wd_544 rfl ⟨Nat.le_of_ble_eq_true rfl, Nat.le_of_ble_eq_true rfl, Nat.le_of_ble_eq_true rfl, Nat.le_of_ble_eq_true rfl⟩ (Nat.le_of_ble_eq_true rfl) rfl dX9_where_196 (fun r26 I25 => ?_)
    refine J_goto (pc := 199) (tgt := 204) dX9_where_199 (by decide) ?_
    exact J_iret (pc := 204) dX9_where_204
set_option maxRecDepth 100000 in
theorem c_X9_where {G : Gt} (hG : Gok G) (hn : gn G = 104) (x1 : Int32) (x2 : Int32) (x3 : Int32) (I : Mem) : Cti G yX9_where cX9_where 8 (some .int) 4 102 [.ref 89, .int x1, .int x2, .int x3] I (f_X9_where x1 x2 x3 I) := by
  refine Cti.of (ls := [some (.ref 89), some (.int x1), some (.int x2), some (.int x3), none, none, none, none]) 4 hG (by decide) rfl (Nat.le_of_ble_eq_true rfl) ?_
  unfold f_X9_where
  refine J_aload_n (pc := 0) (x := 89) dX9_where_0 rfl ?_
  refine J_iload_n (pc := 1) (x := x1) dX9_where_1 rfl ?_
  refine J_callVi (pc := 2) (t := 9) (as := [.int x1]) (st := []) (c_X9_isScheme hG hn x1 I) (ok_m hn 89 (by decide) rfl) (by decide) rfl (cw_RX9_122 rfl) wd_485 wd_484 rfl ⟨Nat.le_of_ble_eq_true rfl, Nat.le_of_ble_eq_true rfl, Nat.le_of_ble_eq_true rfl, Nat.le_of_ble_eq_true rfl⟩ (Nat.le_of_ble_eq_true rfl) rfl dX9_where_2 (fun r2 I1 => ?_)
  refine J_if_eq (pc := 5) (tgt := 35) dX9_where_5 (by decide) ?_ ?_
  · refine J_iconst (pc := 35) (v := (-1 : Int32)) dX9_where_35 (by decide) ?_
    exact J_iret (pc := 36) dX9_where_36
  · refine J_iload_n (pc := 8) (x := x2) dX9_where_8 rfl ?_
    refine J_i2l (pc := 9) dX9_where_9 ?_
    refine J_lconst (pc := 10) (v := (1 : Int64)) dX9_where_10 (by decide) ?_
    refine J_aload_n (pc := 11) (x := 89) dX9_where_11 rfl ?_
    refine J_iload_n (pc := 12) (x := x1) dX9_where_12 rfl ?_
    refine J_callVi (pc := 13) (t := 9) (as := [.int x1]) (st := [.long (1 : Int64), .long ((x2).toInt64)]) (c_X9_pagesOf hG hn x1 I1) (ok_m hn 89 (by decide) rfl) (by decide) rfl (cw_RX9_151 rfl) wd_495 wd_494 rfl ⟨Nat.le_of_ble_eq_true rfl, Nat.le_of_ble_eq_true rfl, Nat.le_of_ble_eq_true rfl, Nat.le_of_ble_eq_true rfl⟩ (Nat.le_of_ble_eq_true rfl) rfl dX9_where_13 (fun r4 I3 => ?_)
    refine J_i2l (pc := 16) dX9_where_16 ?_
    refine J_callSi (pc := 17) (as := [.long ((x2).toInt64), .long (1 : Int64), .long ((r4).toInt64)]) (st := []) (c_X9_in hG hn ((x2).toInt64) (1 : Int64) ((r4).toInt64) I3) (cw_RX9_57 rfl) wd_425 rfl ⟨Nat.le_of_ble_eq_true rfl, Nat.le_of_ble_eq_true rfl, Nat.le_of_ble_eq_true rfl, Nat.le_of_ble_eq_true rfl⟩ (Nat.le_of_ble_eq_true rfl) rfl dX9_where_17 (fun r6 I5 => ?_)
    refine J_if_eq (pc := 20) (tgt := 35) dX9_where_20 (by decide) ?_ ?_
    · refine J_iconst (pc := 35) (v := (-1 : Int32)) dX9_where_35 (by decide) ?_
      exact J_iret (pc := 36) dX9_where_36
    · refine J_iload_n (pc := 23) (x := x3) dX9_where_23 rfl ?_
      refine J_i2l (pc := 24) dX9_where_24 ?_
      refine J_lconst (pc := 25) (v := (0 : Int64)) dX9_where_25 (by decide) ?_
      refine J_ldc2 (pc := 26) (v := (5 : Int64)) wd_516 dX9_where_26 ?_
      refine J_callSi (pc := 29) (as := [.long ((x3).toInt64), .long (0 : Int64), .long (5 : Int64)]) (st := []) (c_X9_in hG hn ((x3).toInt64) (0 : Int64) (5 : Int64) I5) (cw_RX9_57 rfl) wd_425 rfl ⟨Nat.le_of_ble_eq_true rfl, Nat.le_of_ble_eq_true rfl, Nat.le_of_ble_eq_true rfl, Nat.le_of_ble_eq_true rfl⟩ (Nat.le_of_ble_eq_true rfl) rfl dX9_where_29 (fun r8 I7 => ?_)
      refine J_if_ne (pc := 32) (tgt := 37) dX9_where_32 (by decide) ?_ ?_
      · refine J_iconst (pc := 35) (v := (-1 : Int32)) dX9_where_35 (by decide) ?_
        exact J_iret (pc := 36) dX9_where_36
      · refine J_aload_n (pc := 37) (x := 89) dX9_where_37 rfl ?_
        refine J_iload_n (pc := 38) (x := x1) dX9_where_38 rfl ?_
        refine J_callVv (pc := 39) (t := 9) (as := [.int x1]) (st := []) (c_X9_lays hG hn x1 I7) (ok_m hn 89 (by decide) rfl) (by decide) rfl (cw_RX9_160 rfl) wd_541 wd_540 rfl ⟨Nat.le_of_ble_eq_true rfl, Nat.le_of_ble_eq_true rfl, Nat.le_of_ble_eq_true rfl, Nat.le_of_ble_eq_true rfl⟩ (Nat.le_of_ble_eq_true rfl) rfl dX9_where_39 (fun I9 => ?_)
        refine J_iload_n (pc := 42) (x := x2) dX9_where_42 rfl ?_
        refine J_iconst (pc := 43) (v := (1 : Int32)) dX9_where_43 (by decide) ?_
        refine J_isub (pc := 44) dX9_where_44 ?_
        refine J_istore (pc := 45) (ls' := [some (.ref 89), some (.int x1), some (.int x2), some (.int x3), some (.int (x2 - (1 : Int32))), none, none, none]) dX9_where_45 (Nat.le_of_ble_eq_true rfl) rfl rfl ?_
        refine J_aload_n (pc := 47) (x := 89) dX9_where_47 rfl ?_
        refine J_get (pc := 48) (t := 9) (k := 13) (.ref 97) (ok_m hn 89 (by decide) rfl) (by decide) rfl ingX9 (by decide) wd_533 rfl dX9_where_48 ?_
        refine J_iload (pc := 51) (x := (x2 - (1 : Int32))) dX9_where_51 rfl ?_
        refine J_ck (fun hc10 => ?_)
        refine J_ild (pc := 53) (t := 37) (k := (tn (x2 - (1 : Int32)))) (ok_m hn 97 (by decide) rfl) iT_37 (inb_in hc10) rfl dX9_where_53 ?_
        refine J_aload_n (pc := 54) (x := 89) dX9_where_54 rfl ?_
        refine J_get (pc := 55) (t := 9) (k := 16) (.int (I9 89 16)) (ok_m hn 89 (by decide) rfl) (by decide) rfl ingX9 (by decide) wd_526 rfl dX9_where_55 ?_
        refine J_ck (fun hc11 => ?_)
        refine J_irem (pc := 58) dX9_where_58 (nz hc11) ?_
        refine J_istore (pc := 59) (ls' := [some (.ref 89), some (.int x1), some (.int x2), some (.int x3), some (.int (x2 - (1 : Int32))), some (.int ((I9 97 (tn (x2 - (1 : Int32)))) - (I9 97 (tn (x2 - (1 : Int32)))) / (I9 89 16) * (I9 89 16))), none, none]) dX9_where_59 (Nat.le_of_ble_eq_true rfl) rfl rfl ?_
        refine J_aload_n (pc := 61) (x := 89) dX9_where_61 rfl ?_
        refine J_get (pc := 62) (t := 9) (k := 13) (.ref 97) (ok_m hn 89 (by decide) rfl) (by decide) rfl ingX9 (by decide) wd_533 rfl dX9_where_62 ?_
        refine J_iload (pc := 65) (x := (x2 - (1 : Int32))) dX9_where_65 rfl ?_
        refine J_ck (fun hc12 => ?_)
        refine J_ild (pc := 67) (t := 37) (k := (tn (x2 - (1 : Int32)))) (ok_m hn 97 (by decide) rfl) iT_37 (inb_in hc12) rfl dX9_where_67 ?_
        refine J_aload_n (pc := 68) (x := 89) dX9_where_68 rfl ?_
        refine J_get (pc := 69) (t := 9) (k := 16) (.int (I9 89 16)) (ok_m hn 89 (by decide) rfl) (by decide) rfl ingX9 (by decide) wd_526 rfl dX9_where_69 ?_
        refine J_ck (fun hc13 => ?_)
        refine J_idiv (pc := 72) dX9_where_72 (nz hc13) ?_
        refine J_istore (pc := 73) (ls' := [some (.ref 89), some (.int x1), some (.int x2), some (.int x3), some (.int (x2 - (1 : Int32))), some (.int ((I9 97 (tn (x2 - (1 : Int32)))) - (I9 97 (tn (x2 - (1 : Int32)))) / (I9 89 16) * (I9 89 16))), some (.int ((I9 97 (tn (x2 - (1 : Int32)))) / (I9 89 16))), none]) dX9_where_73 (Nat.le_of_ble_eq_true rfl) rfl rfl ?_
        refine J_aload_n (pc := 75) (x := 89) dX9_where_75 rfl ?_
        refine J_get (pc := 76) (t := 9) (k := 14) (.ref 98) (ok_m hn 89 (by decide) rfl) (by decide) rfl ingX9 (by decide) wd_534 rfl dX9_where_76 ?_
        refine J_iload (pc := 79) (x := (x2 - (1 : Int32))) dX9_where_79 rfl ?_
        refine J_ck (fun hc14 => ?_)
        refine J_ild (pc := 81) (t := 38) (k := (tn (x2 - (1 : Int32)))) (ok_m hn 98 (by decide) rfl) iT_38 (inb_in hc14) rfl dX9_where_81 ?_
        refine J_if_ne (pc := 82) (tgt := 92) dX9_where_82 (by decide) ?_ ?_
        · refine J_iload (pc := 85) (x := ((I9 97 (tn (x2 - (1 : Int32)))) - (I9 97 (tn (x2 - (1 : Int32)))) / (I9 89 16) * (I9 89 16))) dX9_where_85 rfl ?_
          refine J_iconst (pc := 87) (v := (1 : Int32)) dX9_where_87 (by decide) ?_
          refine J_iadd (pc := 88) dX9_where_88 ?_
          refine J_goto (pc := 89) (tgt := 96) dX9_where_89 (by decide) ?_
          refine J_weak (ls' := [some (.ref 89), none, none, some (.int x3), some (.int (x2 - (1 : Int32))), some (.int ((I9 97 (tn (x2 - (1 : Int32)))) - (I9 97 (tn (x2 - (1 : Int32)))) / (I9 89 16) * (I9 89 16))), some (.int ((I9 97 (tn (x2 - (1 : Int32)))) / (I9 89 16))), none]) ⟨rfl, rfl, rfl, rfl, rfl, trivial⟩ ?_
          exact tj_X9_where_96 hG hn x3 (x2 - (1 : Int32)) ((I9 97 (tn (x2 - (1 : Int32)))) - (I9 97 (tn (x2 - (1 : Int32)))) / (I9 89 16) * (I9 89 16)) ((I9 97 (tn (x2 - (1 : Int32)))) / (I9 89 16)) (((I9 97 (tn (x2 - (1 : Int32)))) - (I9 97 (tn (x2 - (1 : Int32)))) / (I9 89 16) * (I9 89 16)) + (1 : Int32)) I9
        · refine J_iload (pc := 92) (x := ((I9 97 (tn (x2 - (1 : Int32)))) - (I9 97 (tn (x2 - (1 : Int32)))) / (I9 89 16) * (I9 89 16))) dX9_where_92 rfl ?_
          refine J_iconst (pc := 94) (v := (1 : Int32)) dX9_where_94 (by decide) ?_
          refine J_isub (pc := 95) dX9_where_95 ?_
          refine J_weak (ls' := [some (.ref 89), none, none, some (.int x3), some (.int (x2 - (1 : Int32))), some (.int ((I9 97 (tn (x2 - (1 : Int32)))) - (I9 97 (tn (x2 - (1 : Int32)))) / (I9 89 16) * (I9 89 16))), some (.int ((I9 97 (tn (x2 - (1 : Int32)))) / (I9 89 16))), none]) ⟨rfl, rfl, rfl, rfl, rfl, trivial⟩ ?_
          exact tj_X9_where_96 hG hn x3 (x2 - (1 : Int32)) ((I9 97 (tn (x2 - (1 : Int32)))) - (I9 97 (tn (x2 - (1 : Int32)))) / (I9 89 16) * (I9 89 16)) ((I9 97 (tn (x2 - (1 : Int32)))) / (I9 89 16)) (((I9 97 (tn (x2 - (1 : Int32)))) - (I9 97 (tn (x2 - (1 : Int32)))) / (I9 89 16) * (I9 89 16)) - (1 : Int32)) I9
