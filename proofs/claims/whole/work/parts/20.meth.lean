abbrev mu_X7_unspoil_9 (G : Gt) : Mt Mem := mv G cX7_unspoil 2 yX7_unspoil.cls 0 0
def b_X7_unspoil_9_2 (K21 : Mem → Option Mem) (R : Int32 → Mem → Option Mem) (x1 : Int32) (I : Mem) : Option Mem :=
  (if (100 : Int32) ≤ x1 then K21 I else ck (inb x1 100) <| R (x1 + (1 : Int32)) (stm I 14 (tn x1) (0 : Int32)))
def l_X7_unspoil_9_2 (K21 : Mem → Option Mem) : Nat → Int32 → Mem → Option Mem := fx (b_X7_unspoil_9_2 K21) (fun _ _ => none)
def f_X7_unspoil_9 (I : Mem) : Option Mem :=
  l_X7_unspoil_9_2 (fun I2 => some I2) fuel (0 : Int32) I
set_option maxRecDepth 100000 in
theorem tb_X7_unspoil_9_2 {G : Gt} (hG : Gok G) (hn : Gn G) {K21 : Mem → Option Mem} (hK21 : ∀ (I : Mem), J G (mu_X7_unspoil_9 G) 21 [none, none] [] I (K21 I)) {R : Int32 → Mem → Option Mem} (hR : ∀ (x1 : Int32) (I : Mem), J G (mu_X7_unspoil_9 G) 2 [some (.ref 9), some (.int x1)] [] I (R x1 I)) (x1 : Int32) (I : Mem) : J G (mu_X7_unspoil_9 G) 2 [some (.ref 9), some (.int x1)] [] I (b_X7_unspoil_9_2 K21 R x1 I) := by
  unfold b_X7_unspoil_9_2
  refine J_iload_n (pc := 2) (x := x1) dX7_unspoil_2 rfl ?_
  refine J_bipush (pc := 3) (v := (100 : Int32)) dX7_unspoil_3 (by decide) ?_
  refine J_icmp_ge (pc := 5) (tgt := 21) dX7_unspoil_5 (by decide) ?_ ?_
  · refine J_weak (ls' := [none, none]) trivial ?_
    exact hK21 I
  · refine J_aload_n (pc := 8) (x := 9) dX7_unspoil_8 rfl ?_
    refine J_get (pc := 9) (t := 7) (k := 5) (.ref 14) (ok_c hn 9 (by decide) rfl) (by decide) rfl ingX7 (by decide) wd_4 rfl dX7_unspoil_9 ?_
    refine J_iload_n (pc := 12) (x := x1) dX7_unspoil_12 rfl ?_
    refine J_iconst (pc := 13) (v := (0 : Int32)) dX7_unspoil_13 (by decide) ?_
    refine J_ck (fun hc1 => ?_)
    refine J_ist (pc := 14) (t := 15) (k := (tn x1)) (ok_c hn 14 (by decide) rfl) iT_15 (inb_in hc1) rfl dX7_unspoil_14 ?_
    refine J_iinc (pc := 15) (d := (1 : Int32)) (ls' := [some (.ref 9), some (.int (x1 + (1 : Int32)))]) dX7_unspoil_15 (by decide) rfl (Nat.le_of_ble_eq_true rfl) rfl rfl ?_
    refine J_goto (pc := 18) (tgt := 2) dX7_unspoil_18 (by decide) ?_
    exact hR (x1 + (1 : Int32)) (stm I 14 (tn x1) (0 : Int32))
theorem tl_X7_unspoil_9_2 {G : Gt} (hG : Gok G) (hn : Gn G) {K21 : Mem → Option Mem} (hK21 : ∀ (I : Mem), J G (mu_X7_unspoil_9 G) 21 [none, none] [] I (K21 I)) (n : Nat) : ∀ (x1 : Int32) (I : Mem), J G (mu_X7_unspoil_9 G) 2 [some (.ref 9), some (.int x1)] [] I (l_X7_unspoil_9_2 K21 n x1 I) := by
  induction n with
  | zero => intro x1 I; exact J_none
  | succ n ih => intro x1 I; exact tb_X7_unspoil_9_2 hG hn hK21 ih x1 I
set_option maxRecDepth 100000 in
theorem c_X7_unspoil_9 {G : Gt} (hG : Gok G) (hn : Gn G) (I : Mem) : Ctv G yX7_unspoil cX7_unspoil 2 0 0 [.ref 9] I (f_X7_unspoil_9 I) := by
  refine Ctv.of (ls := [some (.ref 9), none]) 1 hG (by decide) rfl (Nat.le_of_ble_eq_true rfl) ?_
  unfold f_X7_unspoil_9
  refine J_iconst (pc := 0) (v := (0 : Int32)) dX7_unspoil_0 (by decide) ?_
  refine J_istore_n (pc := 1) (ls' := [some (.ref 9), some (.int (0 : Int32))]) dX7_unspoil_1 (Nat.le_of_ble_eq_true rfl) rfl rfl ?_
  refine tl_X7_unspoil_9_2 hG hn (fun I2 => ?_) fuel (0 : Int32) I
  · exact J_vret (pc := 21) dX7_unspoil_21
abbrev mu_X7_tellNothing_9 (G : Gt) : Mt Mem := mv G cX7_tellNothing 2 yX7_tellNothing.cls 1 21
def b_X7_tellNothing_9_7 (K29 : Mem → Option Mem) (R : Int32 → Mem → Option Mem) (x1 : Int32) (I : Mem) : Option Mem :=
  (if (3 : Int32) ≤ x1 then K29 I else ck (inb x1 3) <| ck (inb x1 3) <| R (x1 + (1 : Int32)) (stm I 10 (tn x1) (exv 2 (tn x1))))
def l_X7_tellNothing_9_7 (K29 : Mem → Option Mem) : Nat → Int32 → Mem → Option Mem := fx (b_X7_tellNothing_9_7 K29) (fun _ _ => none)
def f_X7_tellNothing_9 (I : Mem) : Option Mem :=
  l_X7_tellNothing_9_7 (fun I3 => bV (f_X7_unspoil_9 I3) fun I4 => some I4) fuel (0 : Int32) (stm I 9 0 (0 : Int32))
set_option maxRecDepth 100000 in
theorem tb_X7_tellNothing_9_7 {G : Gt} (hG : Gok G) (hn : Gn G) {K29 : Mem → Option Mem} (hK29 : ∀ (I : Mem), J G (mu_X7_tellNothing_9 G) 29 [some (.ref 9), none] [] I (K29 I)) {R : Int32 → Mem → Option Mem} (hR : ∀ (x1 : Int32) (I : Mem), J G (mu_X7_tellNothing_9 G) 7 [some (.ref 9), some (.int x1)] [] I (R x1 I)) (x1 : Int32) (I : Mem) : J G (mu_X7_tellNothing_9 G) 7 [some (.ref 9), some (.int x1)] [] I (b_X7_tellNothing_9_7 K29 R x1 I) := by
  unfold b_X7_tellNothing_9_7
  refine J_iload_n (pc := 7) (x := x1) dX7_tellNothing_7 rfl ?_
  refine J_iconst (pc := 8) (v := (3 : Int32)) dX7_tellNothing_8 (by decide) ?_
  refine J_icmp_ge (pc := 9) (tgt := 29) dX7_tellNothing_9 (by decide) ?_ ?_
  · refine J_weak (ls' := [some (.ref 9), none]) ⟨rfl, trivial⟩ ?_
    exact hK29 I
  · refine J_aload_n (pc := 12) (x := 9) dX7_tellNothing_12 rfl ?_
    refine J_get (pc := 13) (t := 7) (k := 1) (.ref 10) (ok_c hn 9 (by decide) rfl) (by decide) rfl ingX7 (by decide) wd_3 rfl dX7_tellNothing_13 ?_
    refine J_iload_n (pc := 16) (x := x1) dX7_tellNothing_16 rfl ?_
    refine J_getsN (pc := 17) (own := RX7) (nm := "NUMBER_FIRST") 2 rfl (by decide) dX7_tellNothing_17 ?_
    refine J_iload_n (pc := 20) (x := x1) dX7_tellNothing_20 rfl ?_
    refine J_ck (fun hc1 => ?_)
    refine J_eld (pc := 21) (j := 2) (k := (tn x1)) (by decide) (inb_in hc1) rfl dX7_tellNothing_21 ?_
    refine J_ck (fun hc2 => ?_)
    refine J_ist (pc := 22) (t := 11) (k := (tn x1)) (ok_c hn 10 (by decide) rfl) iT_11 (inb_in hc2) rfl dX7_tellNothing_22 ?_
    refine J_iinc (pc := 23) (d := (1 : Int32)) (ls' := [some (.ref 9), some (.int (x1 + (1 : Int32)))]) dX7_tellNothing_23 (by decide) rfl (Nat.le_of_ble_eq_true rfl) rfl rfl ?_
    refine J_goto (pc := 26) (tgt := 7) dX7_tellNothing_26 (by decide) ?_
    exact hR (x1 + (1 : Int32)) (stm I 10 (tn x1) (exv 2 (tn x1)))
theorem tl_X7_tellNothing_9_7 {G : Gt} (hG : Gok G) (hn : Gn G) {K29 : Mem → Option Mem} (hK29 : ∀ (I : Mem), J G (mu_X7_tellNothing_9 G) 29 [some (.ref 9), none] [] I (K29 I)) (n : Nat) : ∀ (x1 : Int32) (I : Mem), J G (mu_X7_tellNothing_9 G) 7 [some (.ref 9), some (.int x1)] [] I (l_X7_tellNothing_9_7 K29 n x1 I) := by
  induction n with
  | zero => intro x1 I; exact J_none
  | succ n ih => intro x1 I; exact tb_X7_tellNothing_9_7 hG hn hK29 ih x1 I
set_option maxRecDepth 100000 in
theorem c_X7_tellNothing_9 {G : Gt} (hG : Gok G) (hn : Gn G) (I : Mem) : Ctv G yX7_tellNothing cX7_tellNothing 2 1 21 [.ref 9] I (f_X7_tellNothing_9 I) := by
  refine Ctv.of (ls := [some (.ref 9), none]) 1 hG (by decide) rfl (Nat.le_of_ble_eq_true rfl) ?_
  unfold f_X7_tellNothing_9
  refine J_aload_n (pc := 0) (x := 9) dX7_tellNothing_0 rfl ?_
  refine J_iconst (pc := 1) (v := (0 : Int32)) dX7_tellNothing_1 (by decide) ?_
  refine J_put (pc := 2) (t := 7) (k := 0) (ok_c hn 9 (by decide) rfl) (by decide) rfl ingX7 tyX7 tyX7_ok nmX7 (by decide) wd_2 rfl pfI (Nat.le_of_ble_eq_true rfl) rfl dX7_tellNothing_2 ?_
  refine J_iconst (pc := 5) (v := (0 : Int32)) dX7_tellNothing_5 (by decide) ?_
  refine J_istore_n (pc := 6) (ls' := [some (.ref 9), some (.int (0 : Int32))]) dX7_tellNothing_6 (Nat.le_of_ble_eq_true rfl) rfl rfl ?_
  refine tl_X7_tellNothing_9_7 hG hn (fun I3 => ?_) fuel (0 : Int32) (stm I 9 0 (0 : Int32))
  · refine J_aload_n (pc := 29) (x := 9) dX7_tellNothing_29 rfl ?_
    refine J_callVv (pc := 30) (t := 7) (as := []) (st := []) (c_X7_unspoil_9 hG hn I3) (ok_c hn 9 (by decide) rfl) (by decide) rfl (cw_RX7_34 rfl) wd_6 wd_5 rfl ⟨Nat.le_of_ble_eq_true rfl, Nat.le_of_ble_eq_true rfl, Nat.le_of_ble_eq_true rfl, Nat.le_of_ble_eq_true rfl⟩ (Nat.le_of_ble_eq_true rfl) rfl dX7_tellNothing_30 (fun I4 => ?_)
    exact J_vret (pc := 33) dX7_tellNothing_33
abbrev mu_X5_lastFigure (G : Gt) : Mt (Int32 × Mem) := mi G cX5_lastFigure 1 yX5_lastFigure.cls (some .int) 0 0
def f_X5_lastFigure (x0 : Int32) (I : Mem) : Option (Int32 × Mem) :=
  some ((x0 &&& (3 : Int32)), I)
set_option maxRecDepth 100000 in
theorem c_X5_lastFigure {G : Gt} (hG : Gok G) (hn : Gn G) (x0 : Int32) (I : Mem) : Cti G yX5_lastFigure cX5_lastFigure 1 (some .int) 0 0 [.int x0] I (f_X5_lastFigure x0 I) := by
  refine Cti.of (ls := [some (.int x0)]) 0 hG (by decide) rfl (Nat.le_of_ble_eq_true rfl) ?_
  unfold f_X5_lastFigure
  refine J_iload_n (pc := 0) (x := x0) dX5_lastFigure_0 rfl ?_
  refine J_iconst (pc := 1) (v := (3 : Int32)) dX5_lastFigure_1 (by decide) ?_
  refine J_iand (pc := 2) dX5_lastFigure_2 ?_
  exact J_iret (pc := 3) dX5_lastFigure_3
abbrev mu_X5_isAcross (G : Gt) : Mt (Int32 × Mem) := mi G cX5_isAcross 1 yX5_isAcross.cls (some .boolean) 0 0
def f_X5_isAcross (x0 : Int32) (I : Mem) : Option (Int32 × Mem) :=
  (if x0 = (1 : Int32) then some ((1 : Int32), I) else (if x0 = (2 : Int32) then some ((1 : Int32), I) else some ((0 : Int32), I)))
set_option maxRecDepth 100000 in
theorem c_X5_isAcross {G : Gt} (hG : Gok G) (hn : Gn G) (x0 : Int32) (I : Mem) : Cti G yX5_isAcross cX5_isAcross 1 (some .boolean) 0 0 [.int x0] I (f_X5_isAcross x0 I) := by
  refine Cti.of (ls := [some (.int x0)]) 0 hG (by decide) rfl (Nat.le_of_ble_eq_true rfl) ?_
  unfold f_X5_isAcross
  refine J_iload_n (pc := 0) (x := x0) dX5_isAcross_0 rfl ?_
  refine J_iconst (pc := 1) (v := (1 : Int32)) dX5_isAcross_1 (by decide) ?_
  refine J_icmp_eq (pc := 2) (tgt := 10) dX5_isAcross_2 (by decide) ?_ ?_
  · refine J_iconst (pc := 10) (v := (1 : Int32)) dX5_isAcross_10 (by decide) ?_
    refine J_goto (pc := 11) (tgt := 15) dX5_isAcross_11 (by decide) ?_
    exact J_zret (pc := 15) rfl dX5_isAcross_15
  · refine J_iload_n (pc := 5) (x := x0) dX5_isAcross_5 rfl ?_
    refine J_iconst (pc := 6) (v := (2 : Int32)) dX5_isAcross_6 (by decide) ?_
    refine J_icmp_ne (pc := 7) (tgt := 14) dX5_isAcross_7 (by decide) ?_ ?_
    · refine J_iconst (pc := 10) (v := (1 : Int32)) dX5_isAcross_10 (by decide) ?_
      refine J_goto (pc := 11) (tgt := 15) dX5_isAcross_11 (by decide) ?_
      exact J_zret (pc := 15) rfl dX5_isAcross_15
    · refine J_iconst (pc := 14) (v := (0 : Int32)) dX5_isAcross_14 (by decide) ?_
      exact J_zret (pc := 15) rfl dX5_isAcross_15
abbrev mu_X6_foldsIn (G : Gt) : Mt (Int32 × Mem) := mi G cX6_foldsIn 6 yX6_foldsIn.cls (some .int) 4 91
def b_X6_foldsIn_19 (K44 : Mem → Option (Int32 × Mem)) (K59 : Int32 → Mem → Option (Int32 × Mem)) (R : Int32 → Int32 → Int32 → Mem → Option (Int32 × Mem)) (x2 : Int32) (x3 : Int32) (x4 : Int32) (I : Mem) : Option (Int32 × Mem) :=
  (if x2 ≤ x4 then K59 x3 I else ck (inb x4 200) <| (if 0 ≤ (sidx 1 (I 2 (tn x4))) then R x2 (((4 : Int32) * x3) + (sidx 1 (I 2 (tn x4)))) (x4 + (1 : Int32)) I else K44 I))
def l_X6_foldsIn_19 (K44 : Mem → Option (Int32 × Mem)) (K59 : Int32 → Mem → Option (Int32 × Mem)) : Nat → Int32 → Int32 → Int32 → Mem → Option (Int32 × Mem) := fx (b_X6_foldsIn_19 K44 K59) (fun _ _ _ _ => none)
def f_X6_foldsIn (x1 : Int32) (x2 : Int32) (I : Mem) : Option (Int32 × Mem) :=
  (if x2 ≤ x1 then some ((-1 : Int32), I) else (if (x2 - x1) ≤ (4 : Int32) then l_X6_foldsIn_19 (fun I2 => some ((-1 : Int32), I2)) (fun (z3 : Int32) I4 => bI (f_X5_lastFigure z3 I4) fun r6 I5 => bI (f_X5_isAcross r6 I5) fun r8 I7 => (if r8 = 0 then some ((-1 : Int32), I7) else some (z3, I7))) fuel x2 (0 : Int32) x1 I else some ((-1 : Int32), I)))
set_option maxRecDepth 100000 in
theorem tb_X6_foldsIn_19 {G : Gt} (hG : Gok G) (hn : Gn G) {K44 : Mem → Option (Int32 × Mem)} (hK44 : ∀ (I : Mem), J G (mu_X6_foldsIn G) 44 [none, none, none, none, none, none] [] I (K44 I)) {K59 : Int32 → Mem → Option (Int32 × Mem)} (hK59 : ∀ (x3 : Int32) (I : Mem), J G (mu_X6_foldsIn G) 59 [none, none, none, some (.int x3), none, none] [] I (K59 x3 I)) {R : Int32 → Int32 → Int32 → Mem → Option (Int32 × Mem)} (hR : ∀ (x2 : Int32) (x3 : Int32) (x4 : Int32) (I : Mem), J G (mu_X6_foldsIn G) 19 [some (.ref 1), none, some (.int x2), some (.int x3), some (.int x4), none] [] I (R x2 x3 x4 I)) (x2 : Int32) (x3 : Int32) (x4 : Int32) (I : Mem) : J G (mu_X6_foldsIn G) 19 [some (.ref 1), none, some (.int x2), some (.int x3), some (.int x4), none] [] I (b_X6_foldsIn_19 K44 K59 R x2 x3 x4 I) := by
  unfold b_X6_foldsIn_19
  refine J_iload (pc := 19) (x := x4) dX6_foldsIn_19 rfl ?_
  refine J_iload_n (pc := 21) (x := x2) dX6_foldsIn_21 rfl ?_
  refine J_icmp_ge (pc := 22) (tgt := 59) dX6_foldsIn_22 (by decide) ?_ ?_
  · refine J_weak (ls' := [none, none, none, some (.int x3), none, none]) ⟨rfl, trivial⟩ ?_
    exact hK59 x3 I
  · refine J_ldcS (pc := 25) (own := RX6) (tx := "blrt") 1 rfl (by decide) dX6_foldsIn_25 ?_
    refine J_aload_n (pc := 27) (x := 1) dX6_foldsIn_27 rfl ?_
    refine J_get (pc := 28) (t := 6) (k := 0) (.ref 2) (ok_c hn 1 (by decide) rfl) (by decide) rfl ingX6 (by decide) wd_15 rfl dX6_foldsIn_28 ?_
    refine J_iload (pc := 31) (x := x4) dX6_foldsIn_31 rfl ?_
    refine J_ck (fun hc1 => ?_)
    refine J_cld (pc := 33) (k := (tn x4)) (ok_c hn 2 (by decide) rfl) (inb_in hc1) rfl dX6_foldsIn_33 ?_
    refine J_str (pc := 34) (as := [.int (I 2 (tn x4))]) (st := []) (c_sidx hG hn 1 (by decide) (I 2 (tn x4)) I) (by decide) (cw_RX6_36 rfl) wd_19 wd_20 rfl ⟨Nat.le_of_ble_eq_true rfl, Nat.le_of_ble_eq_true rfl, Nat.le_of_ble_eq_true rfl, Nat.le_of_ble_eq_true rfl⟩ (Nat.le_of_ble_eq_true rfl) rfl dX6_foldsIn_34 ?_
    refine J_istore (pc := 37) (ls' := [some (.ref 1), none, some (.int x2), some (.int x3), some (.int x4), some (.int (sidx 1 (I 2 (tn x4))))]) dX6_foldsIn_37 (Nat.le_of_ble_eq_true rfl) rfl rfl ?_
    refine J_iload (pc := 39) (x := (sidx 1 (I 2 (tn x4)))) dX6_foldsIn_39 rfl ?_
    refine J_if_ge (pc := 41) (tgt := 46) dX6_foldsIn_41 (by decide) ?_ ?_
    · refine J_iconst (pc := 46) (v := (4 : Int32)) dX6_foldsIn_46 (by decide) ?_
      refine J_iload_n (pc := 47) (x := x3) dX6_foldsIn_47 rfl ?_
      refine J_imul (pc := 48) dX6_foldsIn_48 ?_
      refine J_iload (pc := 49) (x := (sidx 1 (I 2 (tn x4)))) dX6_foldsIn_49 rfl ?_
      refine J_iadd (pc := 51) dX6_foldsIn_51 ?_
      refine J_istore_n (pc := 52) (ls' := [some (.ref 1), none, some (.int x2), some (.int (((4 : Int32) * x3) + (sidx 1 (I 2 (tn x4))))), some (.int x4), some (.int (sidx 1 (I 2 (tn x4))))]) dX6_foldsIn_52 (Nat.le_of_ble_eq_true rfl) rfl rfl ?_
      refine J_iinc (pc := 53) (d := (1 : Int32)) (ls' := [some (.ref 1), none, some (.int x2), some (.int (((4 : Int32) * x3) + (sidx 1 (I 2 (tn x4))))), some (.int (x4 + (1 : Int32))), some (.int (sidx 1 (I 2 (tn x4))))]) dX6_foldsIn_53 (by decide) rfl (Nat.le_of_ble_eq_true rfl) rfl rfl ?_
      refine J_goto (pc := 56) (tgt := 19) dX6_foldsIn_56 (by decide) ?_
      refine J_weak (ls' := [some (.ref 1), none, some (.int x2), some (.int (((4 : Int32) * x3) + (sidx 1 (I 2 (tn x4))))), some (.int (x4 + (1 : Int32))), none]) ⟨rfl, rfl, rfl, rfl, trivial⟩ ?_
      exact hR x2 (((4 : Int32) * x3) + (sidx 1 (I 2 (tn x4)))) (x4 + (1 : Int32)) I
    · refine J_weak (ls' := [none, none, none, none, none, none]) trivial ?_
      exact hK44 I
theorem tl_X6_foldsIn_19 {G : Gt} (hG : Gok G) (hn : Gn G) {K44 : Mem → Option (Int32 × Mem)} (hK44 : ∀ (I : Mem), J G (mu_X6_foldsIn G) 44 [none, none, none, none, none, none] [] I (K44 I)) {K59 : Int32 → Mem → Option (Int32 × Mem)} (hK59 : ∀ (x3 : Int32) (I : Mem), J G (mu_X6_foldsIn G) 59 [none, none, none, some (.int x3), none, none] [] I (K59 x3 I)) (n : Nat) : ∀ (x2 : Int32) (x3 : Int32) (x4 : Int32) (I : Mem), J G (mu_X6_foldsIn G) 19 [some (.ref 1), none, some (.int x2), some (.int x3), some (.int x4), none] [] I (l_X6_foldsIn_19 K44 K59 n x2 x3 x4 I) := by
  induction n with
  | zero => intro x2 x3 x4 I; exact J_none
  | succ n ih => intro x2 x3 x4 I; exact tb_X6_foldsIn_19 hG hn hK44 hK59 ih x2 x3 x4 I
set_option maxRecDepth 100000 in
theorem c_X6_foldsIn {G : Gt} (hG : Gok G) (hn : Gn G) (x1 : Int32) (x2 : Int32) (I : Mem) : Cti G yX6_foldsIn cX6_foldsIn 6 (some .int) 4 91 [.ref 1, .int x1, .int x2] I (f_X6_foldsIn x1 x2 I) := by
  refine Cti.of (ls := [some (.ref 1), some (.int x1), some (.int x2), none, none, none]) 3 hG (by decide) rfl (Nat.le_of_ble_eq_true rfl) ?_
  unfold f_X6_foldsIn
  refine J_iload_n (pc := 0) (x := x1) dX6_foldsIn_0 rfl ?_
  refine J_iload_n (pc := 1) (x := x2) dX6_foldsIn_1 rfl ?_
  refine J_icmp_ge (pc := 2) (tgt := 12) dX6_foldsIn_2 (by decide) ?_ ?_
  · refine J_iconst (pc := 12) (v := (-1 : Int32)) dX6_foldsIn_12 (by decide) ?_
    exact J_iret (pc := 13) dX6_foldsIn_13
  · refine J_iload_n (pc := 5) (x := x2) dX6_foldsIn_5 rfl ?_
    refine J_iload_n (pc := 6) (x := x1) dX6_foldsIn_6 rfl ?_
    refine J_isub (pc := 7) dX6_foldsIn_7 ?_
    refine J_iconst (pc := 8) (v := (4 : Int32)) dX6_foldsIn_8 (by decide) ?_
    refine J_icmp_le (pc := 9) (tgt := 14) dX6_foldsIn_9 (by decide) ?_ ?_
    · refine J_iconst (pc := 14) (v := (0 : Int32)) dX6_foldsIn_14 (by decide) ?_
      refine J_istore_n (pc := 15) (ls' := [some (.ref 1), some (.int x1), some (.int x2), some (.int (0 : Int32)), none, none]) dX6_foldsIn_15 (Nat.le_of_ble_eq_true rfl) rfl rfl ?_
      refine J_iload_n (pc := 16) (x := x1) dX6_foldsIn_16 rfl ?_
      refine J_istore (pc := 17) (ls' := [some (.ref 1), some (.int x1), some (.int x2), some (.int (0 : Int32)), some (.int x1), none]) dX6_foldsIn_17 (Nat.le_of_ble_eq_true rfl) rfl rfl ?_
      refine J_weak (ls' := [some (.ref 1), none, some (.int x2), some (.int (0 : Int32)), some (.int x1), none]) ⟨rfl, rfl, rfl, rfl, trivial⟩ ?_
      refine tl_X6_foldsIn_19 hG hn (fun I2 => ?_) (fun z3 I4 => ?_) fuel x2 (0 : Int32) x1 I
      · refine J_iconst (pc := 44) (v := (-1 : Int32)) dX6_foldsIn_44 (by decide) ?_
        exact J_iret (pc := 45) dX6_foldsIn_45
      · refine J_iload_n (pc := 59) (x := z3) dX6_foldsIn_59 rfl ?_
        refine J_callSi (pc := 60) (as := [.int z3]) (st := []) (c_X5_lastFigure hG hn z3 I4) (cw_RX6_78 rfl) wd_21 rfl ⟨Nat.le_of_ble_eq_true rfl, Nat.le_of_ble_eq_true rfl, Nat.le_of_ble_eq_true rfl, Nat.le_of_ble_eq_true rfl⟩ (Nat.le_of_ble_eq_true rfl) rfl dX6_foldsIn_60 (fun r6 I5 => ?_)
        refine J_callSi (pc := 63) (as := [.int r6]) (st := []) (c_X5_isAcross hG hn r6 I5) (cw_RX6_83 rfl) wd_25 rfl ⟨Nat.le_of_ble_eq_true rfl, Nat.le_of_ble_eq_true rfl, Nat.le_of_ble_eq_true rfl, Nat.le_of_ble_eq_true rfl⟩ (Nat.le_of_ble_eq_true rfl) rfl dX6_foldsIn_63 (fun r8 I7 => ?_)
        refine J_if_eq (pc := 66) (tgt := 73) dX6_foldsIn_66 (by decide) ?_ ?_
        · refine J_iconst (pc := 73) (v := (-1 : Int32)) dX6_foldsIn_73 (by decide) ?_
          exact J_iret (pc := 74) dX6_foldsIn_74
        · refine J_iload_n (pc := 69) (x := z3) dX6_foldsIn_69 rfl ?_
          refine J_goto (pc := 70) (tgt := 74) dX6_foldsIn_70 (by decide) ?_
          exact J_iret (pc := 74) dX6_foldsIn_74
    · refine J_iconst (pc := 12) (v := (-1 : Int32)) dX6_foldsIn_12 (by decide) ?_
      exact J_iret (pc := 13) dX6_foldsIn_13
abbrev mu_X7_addScheme_9 (G : Gt) : Mt Mem := mv G cX7_addScheme 3 yX7_addScheme.cls 0 0
def f_X7_addScheme_9 (x1 : Int32) (x2 : Int32) (I : Mem) : Option Mem :=
  (if (4 : Int32) ≤ (I 9 0) then some I else ck (inb (I 9 0) 4) <| ck (inb ((stm I 11 (tn (I 9 0)) x1) 9 0) 4) <| ck (inb ((stm (stm I 11 (tn (I 9 0)) x1) 12 (tn ((stm I 11 (tn (I 9 0)) x1) 9 0)) x2) 9 0) 4) <| some (stm (stm (stm (stm I 11 (tn (I 9 0)) x1) 12 (tn ((stm I 11 (tn (I 9 0)) x1) 9 0)) x2) 13 (tn ((stm (stm I 11 (tn (I 9 0)) x1) 12 (tn ((stm I 11 (tn (I 9 0)) x1) 9 0)) x2) 9 0)) (10 : Int32)) 9 0 (((stm (stm (stm I 11 (tn (I 9 0)) x1) 12 (tn ((stm I 11 (tn (I 9 0)) x1) 9 0)) x2) 13 (tn ((stm (stm I 11 (tn (I 9 0)) x1) 12 (tn ((stm I 11 (tn (I 9 0)) x1) 9 0)) x2) 9 0)) (10 : Int32)) 9 0) + (1 : Int32))))
set_option maxRecDepth 100000 in
theorem c_X7_addScheme_9 {G : Gt} (hG : Gok G) (hn : Gn G) (x1 : Int32) (x2 : Int32) (I : Mem) : Ctv G yX7_addScheme cX7_addScheme 3 0 0 [.ref 9, .int x1, .int x2] I (f_X7_addScheme_9 x1 x2 I) := by
  refine Ctv.of (ls := [some (.ref 9), some (.int x1), some (.int x2)]) 0 hG (by decide) rfl (Nat.le_of_ble_eq_true rfl) ?_
  unfold f_X7_addScheme_9
  refine J_aload_n (pc := 0) (x := 9) dX7_addScheme_0 rfl ?_
  refine J_get (pc := 1) (t := 7) (k := 0) (.int (I 9 0)) (ok_c hn 9 (by decide) rfl) (by decide) rfl ingX7 (by decide) wd_2 rfl dX7_addScheme_1 ?_
  refine J_iconst (pc := 4) (v := (4 : Int32)) dX7_addScheme_4 (by decide) ?_
  refine J_icmp_ge (pc := 5) (tgt := 49) dX7_addScheme_5 (by decide) ?_ ?_
  · exact J_vret (pc := 49) dX7_addScheme_49
  · refine J_aload_n (pc := 8) (x := 9) dX7_addScheme_8 rfl ?_
    refine J_get (pc := 9) (t := 7) (k := 2) (.ref 11) (ok_c hn 9 (by decide) rfl) (by decide) rfl ingX7 (by decide) wd_34 rfl dX7_addScheme_9 ?_
    refine J_aload_n (pc := 12) (x := 9) dX7_addScheme_12 rfl ?_
    refine J_get (pc := 13) (t := 7) (k := 0) (.int (I 9 0)) (ok_c hn 9 (by decide) rfl) (by decide) rfl ingX7 (by decide) wd_2 rfl dX7_addScheme_13 ?_
    refine J_iload_n (pc := 16) (x := x1) dX7_addScheme_16 rfl ?_
    refine J_ck (fun hc1 => ?_)
    refine J_ist (pc := 17) (t := 12) (k := (tn (I 9 0))) (ok_c hn 11 (by decide) rfl) iT_12 (inb_in hc1) rfl dX7_addScheme_17 ?_
    refine J_aload_n (pc := 18) (x := 9) dX7_addScheme_18 rfl ?_
    refine J_get (pc := 19) (t := 7) (k := 3) (.ref 12) (ok_c hn 9 (by decide) rfl) (by decide) rfl ingX7 (by decide) wd_35 rfl dX7_addScheme_19 ?_
    refine J_aload_n (pc := 22) (x := 9) dX7_addScheme_22 rfl ?_
    refine J_get (pc := 23) (t := 7) (k := 0) (.int ((stm I 11 (tn (I 9 0)) x1) 9 0)) (ok_c hn 9 (by decide) rfl) (by decide) rfl ingX7 (by decide) wd_2 rfl dX7_addScheme_23 ?_
    refine J_iload_n (pc := 26) (x := x2) dX7_addScheme_26 rfl ?_
    refine J_ck (fun hc2 => ?_)
    refine J_ist (pc := 27) (t := 13) (k := (tn ((stm I 11 (tn (I 9 0)) x1) 9 0))) (ok_c hn 12 (by decide) rfl) iT_13 (inb_in hc2) rfl dX7_addScheme_27 ?_
    refine J_aload_n (pc := 28) (x := 9) dX7_addScheme_28 rfl ?_
    refine J_get (pc := 29) (t := 7) (k := 4) (.ref 13) (ok_c hn 9 (by decide) rfl) (by decide) rfl ingX7 (by decide) wd_36 rfl dX7_addScheme_29 ?_
    refine J_aload_n (pc := 32) (x := 9) dX7_addScheme_32 rfl ?_
    refine J_get (pc := 33) (t := 7) (k := 0) (.int ((stm (stm I 11 (tn (I 9 0)) x1) 12 (tn ((stm I 11 (tn (I 9 0)) x1) 9 0)) x2) 9 0)) (ok_c hn 9 (by decide) rfl) (by decide) rfl ingX7 (by decide) wd_2 rfl dX7_addScheme_33 ?_
    refine J_bipush (pc := 36) (v := (10 : Int32)) dX7_addScheme_36 (by decide) ?_
    refine J_ck (fun hc3 => ?_)
    refine J_ist (pc := 38) (t := 14) (k := (tn ((stm (stm I 11 (tn (I 9 0)) x1) 12 (tn ((stm I 11 (tn (I 9 0)) x1) 9 0)) x2) 9 0))) (ok_c hn 13 (by decide) rfl) iT_14 (inb_in hc3) rfl dX7_addScheme_38 ?_
    refine J_aload_n (pc := 39) (x := 9) dX7_addScheme_39 rfl ?_
    refine J_dupR (pc := 40) dX7_addScheme_40 ?_
    refine J_get (pc := 41) (t := 7) (k := 0) (.int ((stm (stm (stm I 11 (tn (I 9 0)) x1) 12 (tn ((stm I 11 (tn (I 9 0)) x1) 9 0)) x2) 13 (tn ((stm (stm I 11 (tn (I 9 0)) x1) 12 (tn ((stm I 11 (tn (I 9 0)) x1) 9 0)) x2) 9 0)) (10 : Int32)) 9 0)) (ok_c hn 9 (by decide) rfl) (by decide) rfl ingX7 (by decide) wd_2 rfl dX7_addScheme_41 ?_
    refine J_iconst (pc := 44) (v := (1 : Int32)) dX7_addScheme_44 (by decide) ?_
    refine J_iadd (pc := 45) dX7_addScheme_45 ?_
    refine J_put (pc := 46) (t := 7) (k := 0) (ok_c hn 9 (by decide) rfl) (by decide) rfl ingX7 tyX7 tyX7_ok nmX7 (by decide) wd_2 rfl pfI (Nat.le_of_ble_eq_true rfl) rfl dX7_addScheme_46 ?_
    exact J_vret (pc := 49) dX7_addScheme_49
abbrev mu_X6_readScheme_1_9 (G : Gt) : Mt (Int32 × Mem) := mi G cX6_readScheme 5 yX6_readScheme.cls (some .boolean) 5 116
def f_X6_readScheme_1_9 (x2 : Int32) (x3 : Int32) (I : Mem) : Option (Int32 × Mem) :=
  bI (f_X6_foldsIn x2 x3 I) fun r2 I1 => (if r2 < 0 then some ((0 : Int32), I1) else (if (I1 9 0) < (4 : Int32) then bV (f_X7_addScheme_9 (x3 - x2) r2 I1) fun I3 => some ((1 : Int32), I3) else some ((0 : Int32), I1)))
set_option maxRecDepth 100000 in
theorem c_X6_readScheme_1_9 {G : Gt} (hG : Gok G) (hn : Gn G) (x2 : Int32) (x3 : Int32) (I : Mem) : Cti G yX6_readScheme cX6_readScheme 5 (some .boolean) 5 116 [.ref 1, .ref 9, .int x2, .int x3] I (f_X6_readScheme_1_9 x2 x3 I) := by
  refine Cti.of (ls := [some (.ref 1), some (.ref 9), some (.int x2), some (.int x3), none]) 1 hG (by decide) rfl (Nat.le_of_ble_eq_true rfl) ?_
  unfold f_X6_readScheme_1_9
  refine J_aload_n (pc := 0) (x := 1) dX6_readScheme_0 rfl ?_
  refine J_iload_n (pc := 1) (x := x2) dX6_readScheme_1 rfl ?_
  refine J_iload_n (pc := 2) (x := x3) dX6_readScheme_2 rfl ?_
  refine J_callVi (pc := 3) (t := 6) (as := [.int x2, .int x3]) (st := []) (c_X6_foldsIn hG hn x2 x3 I) (ok_c hn 1 (by decide) rfl) (by decide) rfl (cw_RX6_46 rfl) wd_29 wd_28 rfl ⟨Nat.le_of_ble_eq_true rfl, Nat.le_of_ble_eq_true rfl, Nat.le_of_ble_eq_true rfl, Nat.le_of_ble_eq_true rfl⟩ (Nat.le_of_ble_eq_true rfl) rfl dX6_readScheme_3 (fun r2 I1 => ?_)
  refine J_istore (pc := 6) (ls' := [some (.ref 1), some (.ref 9), some (.int x2), some (.int x3), some (.int r2)]) dX6_readScheme_6 (Nat.le_of_ble_eq_true rfl) rfl rfl ?_
  refine J_iload (pc := 8) (x := r2) dX6_readScheme_8 rfl ?_
  refine J_if_lt (pc := 10) (tgt := 21) dX6_readScheme_10 (by decide) ?_ ?_
  · refine J_iconst (pc := 21) (v := (0 : Int32)) dX6_readScheme_21 (by decide) ?_
    exact J_zret (pc := 22) rfl dX6_readScheme_22
  · refine J_aload_n (pc := 13) (x := 9) dX6_readScheme_13 rfl ?_
    refine J_get (pc := 14) (t := 7) (k := 0) (.int (I1 9 0)) (ok_c hn 9 (by decide) rfl) (by decide) rfl ingX7 (by decide) wd_33 rfl dX6_readScheme_14 ?_
    refine J_iconst (pc := 17) (v := (4 : Int32)) dX6_readScheme_17 (by decide) ?_
    refine J_icmp_lt (pc := 18) (tgt := 23) dX6_readScheme_18 (by decide) ?_ ?_
    · refine J_aload_n (pc := 23) (x := 9) dX6_readScheme_23 rfl ?_
      refine J_iload_n (pc := 24) (x := x3) dX6_readScheme_24 rfl ?_
      refine J_iload_n (pc := 25) (x := x2) dX6_readScheme_25 rfl ?_
      refine J_isub (pc := 26) dX6_readScheme_26 ?_
      refine J_iload (pc := 27) (x := r2) dX6_readScheme_27 rfl ?_
      refine J_callVv (pc := 29) (t := 7) (as := [.int (x3 - x2), .int r2]) (st := []) (c_X7_addScheme_9 hG hn (x3 - x2) r2 I1) (ok_c hn 9 (by decide) rfl) (by decide) rfl (cw_RX6_53 rfl) wd_38 wd_37 rfl ⟨Nat.le_of_ble_eq_true rfl, Nat.le_of_ble_eq_true rfl, Nat.le_of_ble_eq_true rfl, Nat.le_of_ble_eq_true rfl⟩ (Nat.le_of_ble_eq_true rfl) rfl dX6_readScheme_29 (fun I3 => ?_)
      refine J_iconst (pc := 32) (v := (1 : Int32)) dX6_readScheme_32 (by decide) ?_
      exact J_zret (pc := 33) rfl dX6_readScheme_33
    · refine J_iconst (pc := 21) (v := (0 : Int32)) dX6_readScheme_21 (by decide) ?_
      exact J_zret (pc := 22) rfl dX6_readScheme_22
abbrev mu_X6_commaIn (G : Gt) : Mt (Int32 × Mem) := mi G cX6_commaIn 4 yX6_commaIn.cls (some .int) 0 0
def b_X6_commaIn_2 (K18 : Int32 → Mem → Option (Int32 × Mem)) (K26 : Mem → Option (Int32 × Mem)) (R : Int32 → Int32 → Mem → Option (Int32 × Mem)) (x2 : Int32) (x3 : Int32) (I : Mem) : Option (Int32 × Mem) :=
  (if x2 ≤ x3 then K26 I else ck (inb x3 200) <| (if (I 2 (tn x3)) = (44 : Int32) then K18 x3 I else R x2 (x3 + (1 : Int32)) I))
def l_X6_commaIn_2 (K18 : Int32 → Mem → Option (Int32 × Mem)) (K26 : Mem → Option (Int32 × Mem)) : Nat → Int32 → Int32 → Mem → Option (Int32 × Mem) := fx (b_X6_commaIn_2 K18 K26) (fun _ _ _ => none)
def f_X6_commaIn (x1 : Int32) (x2 : Int32) (I : Mem) : Option (Int32 × Mem) :=
  l_X6_commaIn_2 (fun (z2 : Int32) I3 => some (z2, I3)) (fun I4 => some ((-1 : Int32), I4)) fuel x2 x1 I
set_option maxRecDepth 100000 in
theorem tb_X6_commaIn_2 {G : Gt} (hG : Gok G) (hn : Gn G) {K18 : Int32 → Mem → Option (Int32 × Mem)} (hK18 : ∀ (x3 : Int32) (I : Mem), J G (mu_X6_commaIn G) 18 [none, none, none, some (.int x3)] [] I (K18 x3 I)) {K26 : Mem → Option (Int32 × Mem)} (hK26 : ∀ (I : Mem), J G (mu_X6_commaIn G) 26 [none, none, none, none] [] I (K26 I)) {R : Int32 → Int32 → Mem → Option (Int32 × Mem)} (hR : ∀ (x2 : Int32) (x3 : Int32) (I : Mem), J G (mu_X6_commaIn G) 2 [some (.ref 1), none, some (.int x2), some (.int x3)] [] I (R x2 x3 I)) (x2 : Int32) (x3 : Int32) (I : Mem) : J G (mu_X6_commaIn G) 2 [some (.ref 1), none, some (.int x2), some (.int x3)] [] I (b_X6_commaIn_2 K18 K26 R x2 x3 I) := by
  unfold b_X6_commaIn_2
  refine J_iload_n (pc := 2) (x := x3) dX6_commaIn_2 rfl ?_
  refine J_iload_n (pc := 3) (x := x2) dX6_commaIn_3 rfl ?_
  refine J_icmp_ge (pc := 4) (tgt := 26) dX6_commaIn_4 (by decide) ?_ ?_
  · refine J_weak (ls' := [none, none, none, none]) trivial ?_
    exact hK26 I
  · refine J_aload_n (pc := 7) (x := 1) dX6_commaIn_7 rfl ?_
    refine J_get (pc := 8) (t := 6) (k := 0) (.ref 2) (ok_c hn 1 (by decide) rfl) (by decide) rfl ingX6 (by decide) wd_15 rfl dX6_commaIn_8 ?_
    refine J_iload_n (pc := 11) (x := x3) dX6_commaIn_11 rfl ?_
    refine J_ck (fun hc1 => ?_)
    refine J_cld (pc := 12) (k := (tn x3)) (ok_c hn 2 (by decide) rfl) (inb_in hc1) rfl dX6_commaIn_12 ?_
    refine J_bipush (pc := 13) (v := (44 : Int32)) dX6_commaIn_13 (by decide) ?_
    refine J_icmp_ne (pc := 15) (tgt := 20) dX6_commaIn_15 (by decide) ?_ ?_
    · refine J_weak (ls' := [none, none, none, some (.int x3)]) ⟨rfl, trivial⟩ ?_
      exact hK18 x3 I
    · refine J_iinc (pc := 20) (d := (1 : Int32)) (ls' := [some (.ref 1), none, some (.int x2), some (.int (x3 + (1 : Int32)))]) dX6_commaIn_20 (by decide) rfl (Nat.le_of_ble_eq_true rfl) rfl rfl ?_
      refine J_goto (pc := 23) (tgt := 2) dX6_commaIn_23 (by decide) ?_
      exact hR x2 (x3 + (1 : Int32)) I
theorem tl_X6_commaIn_2 {G : Gt} (hG : Gok G) (hn : Gn G) {K18 : Int32 → Mem → Option (Int32 × Mem)} (hK18 : ∀ (x3 : Int32) (I : Mem), J G (mu_X6_commaIn G) 18 [none, none, none, some (.int x3)] [] I (K18 x3 I)) {K26 : Mem → Option (Int32 × Mem)} (hK26 : ∀ (I : Mem), J G (mu_X6_commaIn G) 26 [none, none, none, none] [] I (K26 I)) (n : Nat) : ∀ (x2 : Int32) (x3 : Int32) (I : Mem), J G (mu_X6_commaIn G) 2 [some (.ref 1), none, some (.int x2), some (.int x3)] [] I (l_X6_commaIn_2 K18 K26 n x2 x3 I) := by
  induction n with
  | zero => intro x2 x3 I; exact J_none
  | succ n ih => intro x2 x3 I; exact tb_X6_commaIn_2 hG hn hK18 hK26 ih x2 x3 I
set_option maxRecDepth 100000 in
theorem c_X6_commaIn {G : Gt} (hG : Gok G) (hn : Gn G) (x1 : Int32) (x2 : Int32) (I : Mem) : Cti G yX6_commaIn cX6_commaIn 4 (some .int) 0 0 [.ref 1, .int x1, .int x2] I (f_X6_commaIn x1 x2 I) := by
  refine Cti.of (ls := [some (.ref 1), some (.int x1), some (.int x2), none]) 1 hG (by decide) rfl (Nat.le_of_ble_eq_true rfl) ?_
  unfold f_X6_commaIn
  refine J_iload_n (pc := 0) (x := x1) dX6_commaIn_0 rfl ?_
  refine J_istore_n (pc := 1) (ls' := [some (.ref 1), some (.int x1), some (.int x2), some (.int x1)]) dX6_commaIn_1 (Nat.le_of_ble_eq_true rfl) rfl rfl ?_
  refine J_weak (ls' := [some (.ref 1), none, some (.int x2), some (.int x1)]) ⟨rfl, rfl, rfl, trivial⟩ ?_
  refine tl_X6_commaIn_2 hG hn (fun z2 I3 => ?_) (fun I4 => ?_) fuel x2 x1 I
  · refine J_iload_n (pc := 18) (x := z2) dX6_commaIn_18 rfl ?_
    exact J_iret (pc := 19) dX6_commaIn_19
  · refine J_iconst (pc := 26) (v := (-1 : Int32)) dX6_commaIn_26 (by decide) ?_
    exact J_iret (pc := 27) dX6_commaIn_27
abbrev mu_X6_figuresIn (G : Gt) : Mt (Int32 × Mem) := mi G cX6_figuresIn 5 yX6_figuresIn.cls (some .int) 0 0
def b_X6_figuresIn_19 (K49 : Mem → Option (Int32 × Mem)) (K73 : Int32 → Mem → Option (Int32 × Mem)) (R : Int32 → Int32 → Int32 → Mem → Option (Int32 × Mem)) (x2 : Int32) (x3 : Int32) (x4 : Int32) (I : Mem) : Option (Int32 × Mem) :=
  (if x2 ≤ x4 then K73 x3 I else ck (inb x4 200) <| (if (I 2 (tn x4)) < (48 : Int32) then K49 I else ck (inb x4 200) <| (if (I 2 (tn x4)) ≤ (57 : Int32) then ck (inb x4 200) <| R x2 ((((10 : Int32) * x3) + (I 2 (tn x4))) - (48 : Int32)) (x4 + (1 : Int32)) I else K49 I)))
def l_X6_figuresIn_19 (K49 : Mem → Option (Int32 × Mem)) (K73 : Int32 → Mem → Option (Int32 × Mem)) : Nat → Int32 → Int32 → Int32 → Mem → Option (Int32 × Mem) := fx (b_X6_figuresIn_19 K49 K73) (fun _ _ _ _ => none)
def f_X6_figuresIn (x1 : Int32) (x2 : Int32) (I : Mem) : Option (Int32 × Mem) :=
  (if x2 ≤ x1 then some ((-1 : Int32), I) else (if (x2 - x1) ≤ (3 : Int32) then l_X6_figuresIn_19 (fun I4 => some ((-1 : Int32), I4)) (fun (z5 : Int32) I6 => some (z5, I6)) fuel x2 (0 : Int32) x1 I else some ((-1 : Int32), I)))
set_option maxRecDepth 100000 in
theorem tb_X6_figuresIn_19 {G : Gt} (hG : Gok G) (hn : Gn G) {K49 : Mem → Option (Int32 × Mem)} (hK49 : ∀ (I : Mem), J G (mu_X6_figuresIn G) 49 [none, none, none, none, none] [] I (K49 I)) {K73 : Int32 → Mem → Option (Int32 × Mem)} (hK73 : ∀ (x3 : Int32) (I : Mem), J G (mu_X6_figuresIn G) 73 [none, none, none, some (.int x3), none] [] I (K73 x3 I)) {R : Int32 → Int32 → Int32 → Mem → Option (Int32 × Mem)} (hR : ∀ (x2 : Int32) (x3 : Int32) (x4 : Int32) (I : Mem), J G (mu_X6_figuresIn G) 19 [some (.ref 1), none, some (.int x2), some (.int x3), some (.int x4)] [] I (R x2 x3 x4 I)) (x2 : Int32) (x3 : Int32) (x4 : Int32) (I : Mem) : J G (mu_X6_figuresIn G) 19 [some (.ref 1), none, some (.int x2), some (.int x3), some (.int x4)] [] I (b_X6_figuresIn_19 K49 K73 R x2 x3 x4 I) := by
  unfold b_X6_figuresIn_19
  refine J_iload (pc := 19) (x := x4) dX6_figuresIn_19 rfl ?_
  refine J_iload_n (pc := 21) (x := x2) dX6_figuresIn_21 rfl ?_
  refine J_icmp_ge (pc := 22) (tgt := 73) dX6_figuresIn_22 (by decide) ?_ ?_
  · refine J_weak (ls' := [none, none, none, some (.int x3), none]) ⟨rfl, trivial⟩ ?_
    exact hK73 x3 I
  · refine J_aload_n (pc := 25) (x := 1) dX6_figuresIn_25 rfl ?_
    refine J_get (pc := 26) (t := 6) (k := 0) (.ref 2) (ok_c hn 1 (by decide) rfl) (by decide) rfl ingX6 (by decide) wd_15 rfl dX6_figuresIn_26 ?_
    refine J_iload (pc := 29) (x := x4) dX6_figuresIn_29 rfl ?_
    refine J_ck (fun hc1 => ?_)
    refine J_cld (pc := 31) (k := (tn x4)) (ok_c hn 2 (by decide) rfl) (inb_in hc1) rfl dX6_figuresIn_31 ?_
    refine J_bipush (pc := 32) (v := (48 : Int32)) dX6_figuresIn_32 (by decide) ?_
    refine J_icmp_lt (pc := 34) (tgt := 49) dX6_figuresIn_34 (by decide) ?_ ?_
    · refine J_weak (ls' := [none, none, none, none, none]) trivial ?_
      exact hK49 I
    · refine J_aload_n (pc := 37) (x := 1) dX6_figuresIn_37 rfl ?_
      refine J_get (pc := 38) (t := 6) (k := 0) (.ref 2) (ok_c hn 1 (by decide) rfl) (by decide) rfl ingX6 (by decide) wd_15 rfl dX6_figuresIn_38 ?_
      refine J_iload (pc := 41) (x := x4) dX6_figuresIn_41 rfl ?_
      refine J_ck (fun hc2 => ?_)
      refine J_cld (pc := 43) (k := (tn x4)) (ok_c hn 2 (by decide) rfl) (inb_in hc2) rfl dX6_figuresIn_43 ?_
      refine J_bipush (pc := 44) (v := (57 : Int32)) dX6_figuresIn_44 (by decide) ?_
      refine J_icmp_le (pc := 46) (tgt := 51) dX6_figuresIn_46 (by decide) ?_ ?_
      · refine J_bipush (pc := 51) (v := (10 : Int32)) dX6_figuresIn_51 (by decide) ?_
        refine J_iload_n (pc := 53) (x := x3) dX6_figuresIn_53 rfl ?_
        refine J_imul (pc := 54) dX6_figuresIn_54 ?_
        refine J_aload_n (pc := 55) (x := 1) dX6_figuresIn_55 rfl ?_
        refine J_get (pc := 56) (t := 6) (k := 0) (.ref 2) (ok_c hn 1 (by decide) rfl) (by decide) rfl ingX6 (by decide) wd_15 rfl dX6_figuresIn_56 ?_
        refine J_iload (pc := 59) (x := x4) dX6_figuresIn_59 rfl ?_
        refine J_ck (fun hc3 => ?_)
        refine J_cld (pc := 61) (k := (tn x4)) (ok_c hn 2 (by decide) rfl) (inb_in hc3) rfl dX6_figuresIn_61 ?_
        refine J_iadd (pc := 62) dX6_figuresIn_62 ?_
        refine J_bipush (pc := 63) (v := (48 : Int32)) dX6_figuresIn_63 (by decide) ?_
        refine J_isub (pc := 65) dX6_figuresIn_65 ?_
        refine J_istore_n (pc := 66) (ls' := [some (.ref 1), none, some (.int x2), some (.int ((((10 : Int32) * x3) + (I 2 (tn x4))) - (48 : Int32))), some (.int x4)]) dX6_figuresIn_66 (Nat.le_of_ble_eq_true rfl) rfl rfl ?_
        refine J_iinc (pc := 67) (d := (1 : Int32)) (ls' := [some (.ref 1), none, some (.int x2), some (.int ((((10 : Int32) * x3) + (I 2 (tn x4))) - (48 : Int32))), some (.int (x4 + (1 : Int32)))]) dX6_figuresIn_67 (by decide) rfl (Nat.le_of_ble_eq_true rfl) rfl rfl ?_
        refine J_goto (pc := 70) (tgt := 19) dX6_figuresIn_70 (by decide) ?_
        exact hR x2 ((((10 : Int32) * x3) + (I 2 (tn x4))) - (48 : Int32)) (x4 + (1 : Int32)) I
      · refine J_weak (ls' := [none, none, none, none, none]) trivial ?_
        exact hK49 I
theorem tl_X6_figuresIn_19 {G : Gt} (hG : Gok G) (hn : Gn G) {K49 : Mem → Option (Int32 × Mem)} (hK49 : ∀ (I : Mem), J G (mu_X6_figuresIn G) 49 [none, none, none, none, none] [] I (K49 I)) {K73 : Int32 → Mem → Option (Int32 × Mem)} (hK73 : ∀ (x3 : Int32) (I : Mem), J G (mu_X6_figuresIn G) 73 [none, none, none, some (.int x3), none] [] I (K73 x3 I)) (n : Nat) : ∀ (x2 : Int32) (x3 : Int32) (x4 : Int32) (I : Mem), J G (mu_X6_figuresIn G) 19 [some (.ref 1), none, some (.int x2), some (.int x3), some (.int x4)] [] I (l_X6_figuresIn_19 K49 K73 n x2 x3 x4 I) := by
  induction n with
  | zero => intro x2 x3 x4 I; exact J_none
  | succ n ih => intro x2 x3 x4 I; exact tb_X6_figuresIn_19 hG hn hK49 hK73 ih x2 x3 x4 I
set_option maxRecDepth 100000 in
theorem c_X6_figuresIn {G : Gt} (hG : Gok G) (hn : Gn G) (x1 : Int32) (x2 : Int32) (I : Mem) : Cti G yX6_figuresIn cX6_figuresIn 5 (some .int) 0 0 [.ref 1, .int x1, .int x2] I (f_X6_figuresIn x1 x2 I) := by
  refine Cti.of (ls := [some (.ref 1), some (.int x1), some (.int x2), none, none]) 2 hG (by decide) rfl (Nat.le_of_ble_eq_true rfl) ?_
  unfold f_X6_figuresIn
  refine J_iload_n (pc := 0) (x := x1) dX6_figuresIn_0 rfl ?_
  refine J_iload_n (pc := 1) (x := x2) dX6_figuresIn_1 rfl ?_
  refine J_icmp_ge (pc := 2) (tgt := 12) dX6_figuresIn_2 (by decide) ?_ ?_
  · refine J_iconst (pc := 12) (v := (-1 : Int32)) dX6_figuresIn_12 (by decide) ?_
    exact J_iret (pc := 13) dX6_figuresIn_13
  · refine J_iload_n (pc := 5) (x := x2) dX6_figuresIn_5 rfl ?_
    refine J_iload_n (pc := 6) (x := x1) dX6_figuresIn_6 rfl ?_
    refine J_isub (pc := 7) dX6_figuresIn_7 ?_
    refine J_iconst (pc := 8) (v := (3 : Int32)) dX6_figuresIn_8 (by decide) ?_
    refine J_icmp_le (pc := 9) (tgt := 14) dX6_figuresIn_9 (by decide) ?_ ?_
    · refine J_iconst (pc := 14) (v := (0 : Int32)) dX6_figuresIn_14 (by decide) ?_
      refine J_istore_n (pc := 15) (ls' := [some (.ref 1), some (.int x1), some (.int x2), some (.int (0 : Int32)), none]) dX6_figuresIn_15 (Nat.le_of_ble_eq_true rfl) rfl rfl ?_
      refine J_iload_n (pc := 16) (x := x1) dX6_figuresIn_16 rfl ?_
      refine J_istore (pc := 17) (ls' := [some (.ref 1), some (.int x1), some (.int x2), some (.int (0 : Int32)), some (.int x1)]) dX6_figuresIn_17 (Nat.le_of_ble_eq_true rfl) rfl rfl ?_
      refine J_weak (ls' := [some (.ref 1), none, some (.int x2), some (.int (0 : Int32)), some (.int x1)]) ⟨rfl, rfl, rfl, rfl, trivial⟩ ?_
      refine tl_X6_figuresIn_19 hG hn (fun I4 => ?_) (fun z5 I6 => ?_) fuel x2 (0 : Int32) x1 I
      · refine J_iconst (pc := 49) (v := (-1 : Int32)) dX6_figuresIn_49 (by decide) ?_
        exact J_iret (pc := 50) dX6_figuresIn_50
      · refine J_iload_n (pc := 73) (x := z5) dX6_figuresIn_73 rfl ?_
        exact J_iret (pc := 74) dX6_figuresIn_74
    · refine J_iconst (pc := 12) (v := (-1 : Int32)) dX6_figuresIn_12 (by decide) ?_
      exact J_iret (pc := 13) dX6_figuresIn_13
abbrev mu_X6_readPrice_1_9 (G : Gt) : Mt (Int32 × Mem) := mi G cX6_readPrice 7 yX6_readPrice.cls (some .boolean) 1 24
def f_X6_readPrice_1_9 (x2 : Int32) (x3 : Int32) (I : Mem) : Option (Int32 × Mem) :=
  bI (f_X6_commaIn x2 x3 I) fun r2 I1 => (if 0 ≤ r2 then bI (f_X6_figuresIn x2 r2 I1) fun r4 I3 => bI (f_X6_figuresIn (r2 + (1 : Int32)) x3 I3) fun r6 I5 => (if r4 < 0 then some ((0 : Int32), I5) else (if (I5 9 0) ≤ r4 then some ((0 : Int32), I5) else (if r6 < 0 then some ((0 : Int32), I5) else (if r6 ≤ (99 : Int32) then ck (inb r4 4) <| some ((1 : Int32), (stm I5 13 (tn r4) r6)) else some ((0 : Int32), I5))))) else some ((0 : Int32), I1))
set_option maxRecDepth 100000 in
theorem c_X6_readPrice_1_9 {G : Gt} (hG : Gok G) (hn : Gn G) (x2 : Int32) (x3 : Int32) (I : Mem) : Cti G yX6_readPrice cX6_readPrice 7 (some .boolean) 1 24 [.ref 1, .ref 9, .int x2, .int x3] I (f_X6_readPrice_1_9 x2 x3 I) := by
  refine Cti.of (ls := [some (.ref 1), some (.ref 9), some (.int x2), some (.int x3), none, none, none]) 3 hG (by decide) rfl (Nat.le_of_ble_eq_true rfl) ?_
  unfold f_X6_readPrice_1_9
  refine J_aload_n (pc := 0) (x := 1) dX6_readPrice_0 rfl ?_
  refine J_iload_n (pc := 1) (x := x2) dX6_readPrice_1 rfl ?_
  refine J_iload_n (pc := 2) (x := x3) dX6_readPrice_2 rfl ?_
  refine J_callVi (pc := 3) (t := 6) (as := [.int x2, .int x3]) (st := []) (c_X6_commaIn hG hn x2 x3 I) (ok_c hn 1 (by decide) rfl) (by decide) rfl (cw_RX6_57 rfl) wd_46 wd_45 rfl ⟨Nat.le_of_ble_eq_true rfl, Nat.le_of_ble_eq_true rfl, Nat.le_of_ble_eq_true rfl, Nat.le_of_ble_eq_true rfl⟩ (Nat.le_of_ble_eq_true rfl) rfl dX6_readPrice_3 (fun r2 I1 => ?_)
  refine J_istore (pc := 6) (ls' := [some (.ref 1), some (.ref 9), some (.int x2), some (.int x3), some (.int r2), none, none]) dX6_readPrice_6 (Nat.le_of_ble_eq_true rfl) rfl rfl ?_
  refine J_iload (pc := 8) (x := r2) dX6_readPrice_8 rfl ?_
  refine J_if_ge (pc := 10) (tgt := 15) dX6_readPrice_10 (by decide) ?_ ?_
  · refine J_aload_n (pc := 15) (x := 1) dX6_readPrice_15 rfl ?_
    refine J_iload_n (pc := 16) (x := x2) dX6_readPrice_16 rfl ?_
    refine J_iload (pc := 17) (x := r2) dX6_readPrice_17 rfl ?_
    refine J_callVi (pc := 19) (t := 6) (as := [.int x2, .int r2]) (st := []) (c_X6_figuresIn hG hn x2 r2 I1) (ok_c hn 1 (by decide) rfl) (by decide) rfl (cw_RX6_60 rfl) wd_50 wd_49 rfl ⟨Nat.le_of_ble_eq_true rfl, Nat.le_of_ble_eq_true rfl, Nat.le_of_ble_eq_true rfl, Nat.le_of_ble_eq_true rfl⟩ (Nat.le_of_ble_eq_true rfl) rfl dX6_readPrice_19 (fun r4 I3 => ?_)
    refine J_istore (pc := 22) (ls' := [some (.ref 1), some (.ref 9), some (.int x2), some (.int x3), some (.int r2), some (.int r4), none]) dX6_readPrice_22 (Nat.le_of_ble_eq_true rfl) rfl rfl ?_
    refine J_aload_n (pc := 24) (x := 1) dX6_readPrice_24 rfl ?_
    refine J_iload (pc := 25) (x := r2) dX6_readPrice_25 rfl ?_
    refine J_iconst (pc := 27) (v := (1 : Int32)) dX6_readPrice_27 (by decide) ?_
    refine J_iadd (pc := 28) dX6_readPrice_28 ?_
    refine J_iload_n (pc := 29) (x := x3) dX6_readPrice_29 rfl ?_
    refine J_callVi (pc := 30) (t := 6) (as := [.int (r2 + (1 : Int32)), .int x3]) (st := []) (c_X6_figuresIn hG hn (r2 + (1 : Int32)) x3 I3) (ok_c hn 1 (by decide) rfl) (by decide) rfl (cw_RX6_60 rfl) wd_50 wd_49 rfl ⟨Nat.le_of_ble_eq_true rfl, Nat.le_of_ble_eq_true rfl, Nat.le_of_ble_eq_true rfl, Nat.le_of_ble_eq_true rfl⟩ (Nat.le_of_ble_eq_true rfl) rfl dX6_readPrice_30 (fun r6 I5 => ?_)
    refine J_istore (pc := 33) (ls' := [some (.ref 1), some (.ref 9), some (.int x2), some (.int x3), some (.int r2), some (.int r4), some (.int r6)]) dX6_readPrice_33 (Nat.le_of_ble_eq_true rfl) rfl rfl ?_
    refine J_iload (pc := 35) (x := r4) dX6_readPrice_35 rfl ?_
    refine J_if_lt (pc := 37) (tgt := 61) dX6_readPrice_37 (by decide) ?_ ?_
    · refine J_iconst (pc := 61) (v := (0 : Int32)) dX6_readPrice_61 (by decide) ?_
      exact J_zret (pc := 62) rfl dX6_readPrice_62
    · refine J_iload (pc := 40) (x := r4) dX6_readPrice_40 rfl ?_
      refine J_aload_n (pc := 42) (x := 9) dX6_readPrice_42 rfl ?_
      refine J_get (pc := 43) (t := 7) (k := 0) (.int (I5 9 0)) (ok_c hn 9 (by decide) rfl) (by decide) rfl ingX7 (by decide) wd_33 rfl dX6_readPrice_43 ?_
      refine J_icmp_ge (pc := 46) (tgt := 61) dX6_readPrice_46 (by decide) ?_ ?_
      · refine J_iconst (pc := 61) (v := (0 : Int32)) dX6_readPrice_61 (by decide) ?_
        exact J_zret (pc := 62) rfl dX6_readPrice_62
      · refine J_iload (pc := 49) (x := r6) dX6_readPrice_49 rfl ?_
        refine J_if_lt (pc := 51) (tgt := 61) dX6_readPrice_51 (by decide) ?_ ?_
        · refine J_iconst (pc := 61) (v := (0 : Int32)) dX6_readPrice_61 (by decide) ?_
          exact J_zret (pc := 62) rfl dX6_readPrice_62
        · refine J_iload (pc := 54) (x := r6) dX6_readPrice_54 rfl ?_
          refine J_bipush (pc := 56) (v := (99 : Int32)) dX6_readPrice_56 (by decide) ?_
          refine J_icmp_le (pc := 58) (tgt := 63) dX6_readPrice_58 (by decide) ?_ ?_
          · refine J_aload_n (pc := 63) (x := 9) dX6_readPrice_63 rfl ?_
            refine J_get (pc := 64) (t := 7) (k := 4) (.ref 13) (ok_c hn 9 (by decide) rfl) (by decide) rfl ingX7 (by decide) wd_53 rfl dX6_readPrice_64 ?_
            refine J_iload (pc := 67) (x := r4) dX6_readPrice_67 rfl ?_
            refine J_iload (pc := 69) (x := r6) dX6_readPrice_69 rfl ?_
            refine J_ck (fun hc7 => ?_)
            refine J_ist (pc := 71) (t := 14) (k := (tn r4)) (ok_c hn 13 (by decide) rfl) iT_14 (inb_in hc7) rfl dX6_readPrice_71 ?_
            refine J_iconst (pc := 72) (v := (1 : Int32)) dX6_readPrice_72 (by decide) ?_
            exact J_zret (pc := 73) rfl dX6_readPrice_73
          · refine J_iconst (pc := 61) (v := (0 : Int32)) dX6_readPrice_61 (by decide) ?_
            exact J_zret (pc := 62) rfl dX6_readPrice_62
  · refine J_iconst (pc := 13) (v := (0 : Int32)) dX6_readPrice_13 (by decide) ?_
    exact J_zret (pc := 14) rfl dX6_readPrice_14
abbrev mu_X6_readNumber_1_9 (G : Gt) : Mt (Int32 × Mem) := mi G cX6_readNumber 6 yX6_readNumber.cls (some .boolean) 1 24
def f_X6_readNumber_1_9 (x2 : Int32) (x3 : Int32) (x4 : Int32) (I : Mem) : Option (Int32 × Mem) :=
  (if x2 < 0 then some ((0 : Int32), I) else (if x2 < (3 : Int32) then bI (f_X6_figuresIn x3 x4 I) fun r2 I1 => ck (inb x2 3) <| (if r2 < (exv 0 (tn x2)) then some ((0 : Int32), I1) else ck (inb x2 3) <| (if r2 ≤ (exv 1 (tn x2)) then ck (inb x2 3) <| some ((1 : Int32), (stm I1 10 (tn x2) r2)) else some ((0 : Int32), I1))) else some ((0 : Int32), I)))
set_option maxRecDepth 100000 in
theorem c_X6_readNumber_1_9 {G : Gt} (hG : Gok G) (hn : Gn G) (x2 : Int32) (x3 : Int32) (x4 : Int32) (I : Mem) : Cti G yX6_readNumber cX6_readNumber 6 (some .boolean) 1 24 [.ref 1, .ref 9, .int x2, .int x3, .int x4] I (f_X6_readNumber_1_9 x2 x3 x4 I) := by
  refine Cti.of (ls := [some (.ref 1), some (.ref 9), some (.int x2), some (.int x3), some (.int x4), none]) 1 hG (by decide) rfl (Nat.le_of_ble_eq_true rfl) ?_
  unfold f_X6_readNumber_1_9
  refine J_iload_n (pc := 0) (x := x2) dX6_readNumber_0 rfl ?_
  refine J_if_lt (pc := 1) (tgt := 9) dX6_readNumber_1 (by decide) ?_ ?_
  · refine J_iconst (pc := 9) (v := (0 : Int32)) dX6_readNumber_9 (by decide) ?_
    exact J_zret (pc := 10) rfl dX6_readNumber_10
  · refine J_iload_n (pc := 4) (x := x2) dX6_readNumber_4 rfl ?_
    refine J_iconst (pc := 5) (v := (3 : Int32)) dX6_readNumber_5 (by decide) ?_
    refine J_icmp_lt (pc := 6) (tgt := 11) dX6_readNumber_6 (by decide) ?_ ?_
    · refine J_aload_n (pc := 11) (x := 1) dX6_readNumber_11 rfl ?_
      refine J_iload_n (pc := 12) (x := x3) dX6_readNumber_12 rfl ?_
      refine J_iload (pc := 13) (x := x4) dX6_readNumber_13 rfl ?_
      refine J_callVi (pc := 15) (t := 6) (as := [.int x3, .int x4]) (st := []) (c_X6_figuresIn hG hn x3 x4 I) (ok_c hn 1 (by decide) rfl) (by decide) rfl (cw_RX6_60 rfl) wd_50 wd_49 rfl ⟨Nat.le_of_ble_eq_true rfl, Nat.le_of_ble_eq_true rfl, Nat.le_of_ble_eq_true rfl, Nat.le_of_ble_eq_true rfl⟩ (Nat.le_of_ble_eq_true rfl) rfl dX6_readNumber_15 (fun r2 I1 => ?_)
      refine J_istore (pc := 18) (ls' := [some (.ref 1), some (.ref 9), some (.int x2), some (.int x3), some (.int x4), some (.int r2)]) dX6_readNumber_18 (Nat.le_of_ble_eq_true rfl) rfl rfl ?_
      refine J_iload (pc := 20) (x := r2) dX6_readNumber_20 rfl ?_
      refine J_getsN (pc := 22) (own := RX6) (nm := "NUMBER_LEAST") 0 rfl (by decide) dX6_readNumber_22 ?_
      refine J_iload_n (pc := 25) (x := x2) dX6_readNumber_25 rfl ?_
      refine J_ck (fun hc3 => ?_)
      refine J_eld (pc := 26) (j := 0) (k := (tn x2)) (by decide) (inb_in hc3) rfl dX6_readNumber_26 ?_
      refine J_icmp_lt (pc := 27) (tgt := 40) dX6_readNumber_27 (by decide) ?_ ?_
      · refine J_iconst (pc := 40) (v := (0 : Int32)) dX6_readNumber_40 (by decide) ?_
        exact J_zret (pc := 41) rfl dX6_readNumber_41
      · refine J_iload (pc := 30) (x := r2) dX6_readNumber_30 rfl ?_
        refine J_getsN (pc := 32) (own := RX6) (nm := "NUMBER_MOST") 1 rfl (by decide) dX6_readNumber_32 ?_
        refine J_iload_n (pc := 35) (x := x2) dX6_readNumber_35 rfl ?_
        refine J_ck (fun hc4 => ?_)
        refine J_eld (pc := 36) (j := 1) (k := (tn x2)) (by decide) (inb_in hc4) rfl dX6_readNumber_36 ?_
        refine J_icmp_le (pc := 37) (tgt := 42) dX6_readNumber_37 (by decide) ?_ ?_
        · refine J_aload_n (pc := 42) (x := 9) dX6_readNumber_42 rfl ?_
          refine J_get (pc := 43) (t := 7) (k := 1) (.ref 10) (ok_c hn 9 (by decide) rfl) (by decide) rfl ingX7 (by decide) wd_58 rfl dX6_readNumber_43 ?_
          refine J_iload_n (pc := 46) (x := x2) dX6_readNumber_46 rfl ?_
          refine J_iload (pc := 47) (x := r2) dX6_readNumber_47 rfl ?_
          refine J_ck (fun hc5 => ?_)
          refine J_ist (pc := 49) (t := 11) (k := (tn x2)) (ok_c hn 10 (by decide) rfl) iT_11 (inb_in hc5) rfl dX6_readNumber_49 ?_
          refine J_iconst (pc := 50) (v := (1 : Int32)) dX6_readNumber_50 (by decide) ?_
          exact J_zret (pc := 51) rfl dX6_readNumber_51
        · refine J_iconst (pc := 40) (v := (0 : Int32)) dX6_readNumber_40 (by decide) ?_
          exact J_zret (pc := 41) rfl dX6_readNumber_41
    · refine J_iconst (pc := 9) (v := (0 : Int32)) dX6_readNumber_9 (by decide) ?_
      exact J_zret (pc := 10) rfl dX6_readNumber_10
abbrev mu_X6_readItem_1_9 (G : Gt) : Mt (Int32 × Mem) := mi G cX6_readItem 5 yX6_readItem.cls (some .boolean) 6 140
def f_X6_readItem_1_9 (x2 : Int32) (x3 : Int32) (I : Mem) : Option (Int32 × Mem) :=
  (if x2 < x3 then ck (inb x2 200) <| (if (I 2 (tn x2)) = (107 : Int32) then bI (f_X6_readScheme_1_9 (x2 + (1 : Int32)) x3 I) fun r3 I2 => ck (r3 == 0 || r3 == 1) <| some (r3, I2) else (if (I 2 (tn x2)) = (112 : Int32) then bI (f_X6_readPrice_1_9 (x2 + (1 : Int32)) x3 I) fun r6 I5 => ck (r6 == 0 || r6 == 1) <| some (r6, I5) else bI (f_X6_readNumber_1_9 (sidx 0 (I 2 (tn x2))) (x2 + (1 : Int32)) x3 I) fun r9 I8 => ck (r9 == 0 || r9 == 1) <| some (r9, I8))) else some ((0 : Int32), I))
set_option maxRecDepth 100000 in
theorem c_X6_readItem_1_9 {G : Gt} (hG : Gok G) (hn : Gn G) (x2 : Int32) (x3 : Int32) (I : Mem) : Cti G yX6_readItem cX6_readItem 5 (some .boolean) 6 140 [.ref 1, .ref 9, .int x2, .int x3] I (f_X6_readItem_1_9 x2 x3 I) := by
  refine Cti.of (ls := [some (.ref 1), some (.ref 9), some (.int x2), some (.int x3), none]) 1 hG (by decide) rfl (Nat.le_of_ble_eq_true rfl) ?_
  unfold f_X6_readItem_1_9
  refine J_iload_n (pc := 0) (x := x2) dX6_readItem_0 rfl ?_
  refine J_iload_n (pc := 1) (x := x3) dX6_readItem_1 rfl ?_
  refine J_icmp_lt (pc := 2) (tgt := 7) dX6_readItem_2 (by decide) ?_ ?_
  · refine J_aload_n (pc := 7) (x := 1) dX6_readItem_7 rfl ?_
    refine J_get (pc := 8) (t := 6) (k := 0) (.ref 2) (ok_c hn 1 (by decide) rfl) (by decide) rfl ingX6 (by decide) wd_15 rfl dX6_readItem_8 ?_
    refine J_iload_n (pc := 11) (x := x2) dX6_readItem_11 rfl ?_
    refine J_ck (fun hc1 => ?_)
    refine J_cld (pc := 12) (k := (tn x2)) (ok_c hn 2 (by decide) rfl) (inb_in hc1) rfl dX6_readItem_12 ?_
    refine J_istore (pc := 13) (ls' := [some (.ref 1), some (.ref 9), some (.int x2), some (.int x3), some (.int (I 2 (tn x2)))]) dX6_readItem_13 (Nat.le_of_ble_eq_true rfl) rfl rfl ?_
    refine J_iload (pc := 15) (x := (I 2 (tn x2))) dX6_readItem_15 rfl ?_
    refine J_bipush (pc := 17) (v := (107 : Int32)) dX6_readItem_17 (by decide) ?_
    refine J_icmp_ne (pc := 19) (tgt := 32) dX6_readItem_19 (by decide) ?_ ?_
    · refine J_aload_n (pc := 22) (x := 1) dX6_readItem_22 rfl ?_
      refine J_aload_n (pc := 23) (x := 9) dX6_readItem_23 rfl ?_
      refine J_iload_n (pc := 24) (x := x2) dX6_readItem_24 rfl ?_
      refine J_iconst (pc := 25) (v := (1 : Int32)) dX6_readItem_25 (by decide) ?_
      refine J_iadd (pc := 26) dX6_readItem_26 ?_
      refine J_iload_n (pc := 27) (x := x3) dX6_readItem_27 rfl ?_
      refine J_callVi (pc := 28) (t := 6) (as := [.ref 9, .int (x2 + (1 : Int32)), .int x3]) (st := []) (c_X6_readScheme_1_9 hG hn (x2 + (1 : Int32)) x3 I) (ok_c hn 1 (by decide) rfl) (by decide) rfl (cw_RX6_28 rfl) wd_42 wd_41 rfl ⟨Nat.le_of_ble_eq_true rfl, Nat.le_of_ble_eq_true rfl, Nat.le_of_ble_eq_true rfl, Nat.le_of_ble_eq_true rfl⟩ (Nat.le_of_ble_eq_true rfl) rfl dX6_readItem_28 (fun r3 I2 => ?_)
      refine J_ck (fun hc4 => ?_)
      exact J_zret (pc := 31) (nar01 hc4) dX6_readItem_31
    · refine J_iload (pc := 32) (x := (I 2 (tn x2))) dX6_readItem_32 rfl ?_
      refine J_bipush (pc := 34) (v := (112 : Int32)) dX6_readItem_34 (by decide) ?_
      refine J_icmp_ne (pc := 36) (tgt := 49) dX6_readItem_36 (by decide) ?_ ?_
      · refine J_aload_n (pc := 39) (x := 1) dX6_readItem_39 rfl ?_
        refine J_aload_n (pc := 40) (x := 9) dX6_readItem_40 rfl ?_
        refine J_iload_n (pc := 41) (x := x2) dX6_readItem_41 rfl ?_
        refine J_iconst (pc := 42) (v := (1 : Int32)) dX6_readItem_42 (by decide) ?_
        refine J_iadd (pc := 43) dX6_readItem_43 ?_
        refine J_iload_n (pc := 44) (x := x3) dX6_readItem_44 rfl ?_
        refine J_callVi (pc := 45) (t := 6) (as := [.ref 9, .int (x2 + (1 : Int32)), .int x3]) (st := []) (c_X6_readPrice_1_9 hG hn (x2 + (1 : Int32)) x3 I) (ok_c hn 1 (by decide) rfl) (by decide) rfl (cw_RX6_31 rfl) wd_55 wd_54 rfl ⟨Nat.le_of_ble_eq_true rfl, Nat.le_of_ble_eq_true rfl, Nat.le_of_ble_eq_true rfl, Nat.le_of_ble_eq_true rfl⟩ (Nat.le_of_ble_eq_true rfl) rfl dX6_readItem_45 (fun r6 I5 => ?_)
        refine J_ck (fun hc7 => ?_)
        exact J_zret (pc := 48) (nar01 hc7) dX6_readItem_48
      · refine J_aload_n (pc := 49) (x := 1) dX6_readItem_49 rfl ?_
        refine J_aload_n (pc := 50) (x := 9) dX6_readItem_50 rfl ?_
        refine J_ldcS (pc := 51) (own := RX6) (tx := "ncm") 0 rfl (by decide) dX6_readItem_51 ?_
        refine J_iload (pc := 53) (x := (I 2 (tn x2))) dX6_readItem_53 rfl ?_
        refine J_str (pc := 55) (as := [.int (I 2 (tn x2))]) (st := [.ref 9, .ref 1]) (c_sidx hG hn 0 (by decide) (I 2 (tn x2)) I) (by decide) (cw_RX6_36 rfl) wd_19 wd_20 rfl ⟨Nat.le_of_ble_eq_true rfl, Nat.le_of_ble_eq_true rfl, Nat.le_of_ble_eq_true rfl, Nat.le_of_ble_eq_true rfl⟩ (Nat.le_of_ble_eq_true rfl) rfl dX6_readItem_55 ?_
        refine J_iload_n (pc := 58) (x := x2) dX6_readItem_58 rfl ?_
        refine J_iconst (pc := 59) (v := (1 : Int32)) dX6_readItem_59 (by decide) ?_
        refine J_iadd (pc := 60) dX6_readItem_60 ?_
        refine J_iload_n (pc := 61) (x := x3) dX6_readItem_61 rfl ?_
        refine J_callVi (pc := 62) (t := 6) (as := [.ref 9, .int (sidx 0 (I 2 (tn x2))), .int (x2 + (1 : Int32)), .int x3]) (st := []) (c_X6_readNumber_1_9 hG hn (sidx 0 (I 2 (tn x2))) (x2 + (1 : Int32)) x3 I) (ok_c hn 1 (by decide) rfl) (by decide) rfl (cw_RX6_42 rfl) wd_60 wd_59 rfl ⟨Nat.le_of_ble_eq_true rfl, Nat.le_of_ble_eq_true rfl, Nat.le_of_ble_eq_true rfl, Nat.le_of_ble_eq_true rfl⟩ (Nat.le_of_ble_eq_true rfl) rfl dX6_readItem_62 (fun r9 I8 => ?_)
        refine J_ck (fun hc10 => ?_)
        exact J_zret (pc := 65) (nar01 hc10) dX6_readItem_65
  · refine J_iconst (pc := 5) (v := (0 : Int32)) dX6_readItem_5 (by decide) ?_
    exact J_zret (pc := 6) rfl dX6_readItem_6
abbrev mu_X6_readInto_1_9 (G : Gt) : Mt (Int32 × Mem) := mi G cX6_readInto 4 yX6_readInto.cls (some .int) 7 164
def b_X6_readInto_1_9_8 (K37 : Int32 → Mem → Option (Int32 × Mem)) (K49 : Int32 → Mem → Option (Int32 × Mem)) (R : Int32 → Int32 → Mem → Option (Int32 × Mem)) (x2 : Int32) (x3 : Int32) (I : Mem) : Option (Int32 × Mem) :=
  (if (I 1 1) ≤ x3 then K49 x2 I else ck (inb x3 200) <| (if (I 2 (tn x3)) = (59 : Int32) then bI (f_X6_readItem_1_9 x2 x3 I) fun r4 I3 => (if r4 = 0 then K37 x2 I3 else R (x3 + (1 : Int32)) (x3 + (1 : Int32)) I3) else R x2 (x3 + (1 : Int32)) I))
def l_X6_readInto_1_9_8 (K37 : Int32 → Mem → Option (Int32 × Mem)) (K49 : Int32 → Mem → Option (Int32 × Mem)) : Nat → Int32 → Int32 → Mem → Option (Int32 × Mem) := fx (b_X6_readInto_1_9_8 K37 K49) (fun _ _ _ => none)
def f_X6_readInto_1_9 (I : Mem) : Option (Int32 × Mem) :=
  bV (f_X7_tellNothing_9 I) fun I1 => l_X6_readInto_1_9_8 (fun (z5 : Int32) I6 => some (z5, I6)) (fun (z7 : Int32) I8 => (if (I8 1 1) ≤ z7 then some ((-4 : Int32), I8) else some (z7, I8))) fuel (0 : Int32) (0 : Int32) I1
set_option maxRecDepth 100000 in
theorem tb_X6_readInto_1_9_8 {G : Gt} (hG : Gok G) (hn : Gn G) {K37 : Int32 → Mem → Option (Int32 × Mem)} (hK37 : ∀ (x2 : Int32) (I : Mem), J G (mu_X6_readInto_1_9 G) 37 [none, none, some (.int x2), none] [] I (K37 x2 I)) {K49 : Int32 → Mem → Option (Int32 × Mem)} (hK49 : ∀ (x2 : Int32) (I : Mem), J G (mu_X6_readInto_1_9 G) 49 [some (.ref 1), none, some (.int x2), none] [] I (K49 x2 I)) {R : Int32 → Int32 → Mem → Option (Int32 × Mem)} (hR : ∀ (x2 : Int32) (x3 : Int32) (I : Mem), J G (mu_X6_readInto_1_9 G) 8 [some (.ref 1), some (.ref 9), some (.int x2), some (.int x3)] [] I (R x2 x3 I)) (x2 : Int32) (x3 : Int32) (I : Mem) : J G (mu_X6_readInto_1_9 G) 8 [some (.ref 1), some (.ref 9), some (.int x2), some (.int x3)] [] I (b_X6_readInto_1_9_8 K37 K49 R x2 x3 I) := by
  unfold b_X6_readInto_1_9_8
  refine J_iload_n (pc := 8) (x := x3) dX6_readInto_8 rfl ?_
  refine J_aload_n (pc := 9) (x := 1) dX6_readInto_9 rfl ?_
  refine J_get (pc := 10) (t := 6) (k := 1) (.int (I 1 1)) (ok_c hn 1 (by decide) rfl) (by decide) rfl ingX6 (by decide) wd_14 rfl dX6_readInto_10 ?_
  refine J_icmp_ge (pc := 13) (tgt := 49) dX6_readInto_13 (by decide) ?_ ?_
  · refine J_weak (ls' := [some (.ref 1), none, some (.int x2), none]) ⟨rfl, rfl, trivial⟩ ?_
    exact hK49 x2 I
  · refine J_aload_n (pc := 16) (x := 1) dX6_readInto_16 rfl ?_
    refine J_get (pc := 17) (t := 6) (k := 0) (.ref 2) (ok_c hn 1 (by decide) rfl) (by decide) rfl ingX6 (by decide) wd_15 rfl dX6_readInto_17 ?_
    refine J_iload_n (pc := 20) (x := x3) dX6_readInto_20 rfl ?_
    refine J_ck (fun hc2 => ?_)
    refine J_cld (pc := 21) (k := (tn x3)) (ok_c hn 2 (by decide) rfl) (inb_in hc2) rfl dX6_readInto_21 ?_
    refine J_bipush (pc := 22) (v := (59 : Int32)) dX6_readInto_22 (by decide) ?_
    refine J_icmp_ne (pc := 24) (tgt := 43) dX6_readInto_24 (by decide) ?_ ?_
    · refine J_aload_n (pc := 27) (x := 1) dX6_readInto_27 rfl ?_
      refine J_aload_n (pc := 28) (x := 9) dX6_readInto_28 rfl ?_
      refine J_iload_n (pc := 29) (x := x2) dX6_readInto_29 rfl ?_
      refine J_iload_n (pc := 30) (x := x3) dX6_readInto_30 rfl ?_
      refine J_callVi (pc := 31) (t := 6) (as := [.ref 9, .int x2, .int x3]) (st := []) (c_X6_readItem_1_9 hG hn x2 x3 I) (ok_c hn 1 (by decide) rfl) (by decide) rfl (cw_RX6_24 rfl) wd_64 wd_63 rfl ⟨Nat.le_of_ble_eq_true rfl, Nat.le_of_ble_eq_true rfl, Nat.le_of_ble_eq_true rfl, Nat.le_of_ble_eq_true rfl⟩ (Nat.le_of_ble_eq_true rfl) rfl dX6_readInto_31 (fun r4 I3 => ?_)
      refine J_if_ne (pc := 34) (tgt := 39) dX6_readInto_34 (by decide) ?_ ?_
      · refine J_weak (ls' := [none, none, some (.int x2), none]) ⟨rfl, trivial⟩ ?_
        exact hK37 x2 I3
      · refine J_iload_n (pc := 39) (x := x3) dX6_readInto_39 rfl ?_
        refine J_iconst (pc := 40) (v := (1 : Int32)) dX6_readInto_40 (by decide) ?_
        refine J_iadd (pc := 41) dX6_readInto_41 ?_
        refine J_istore_n (pc := 42) (ls' := [some (.ref 1), some (.ref 9), some (.int (x3 + (1 : Int32))), some (.int x3)]) dX6_readInto_42 (Nat.le_of_ble_eq_true rfl) rfl rfl ?_
        refine J_iinc (pc := 43) (d := (1 : Int32)) (ls' := [some (.ref 1), some (.ref 9), some (.int (x3 + (1 : Int32))), some (.int (x3 + (1 : Int32)))]) dX6_readInto_43 (by decide) rfl (Nat.le_of_ble_eq_true rfl) rfl rfl ?_
        refine J_goto (pc := 46) (tgt := 8) dX6_readInto_46 (by decide) ?_
        exact hR (x3 + (1 : Int32)) (x3 + (1 : Int32)) I3
    · refine J_iinc (pc := 43) (d := (1 : Int32)) (ls' := [some (.ref 1), some (.ref 9), some (.int x2), some (.int (x3 + (1 : Int32)))]) dX6_readInto_43 (by decide) rfl (Nat.le_of_ble_eq_true rfl) rfl rfl ?_
      refine J_goto (pc := 46) (tgt := 8) dX6_readInto_46 (by decide) ?_
      exact hR x2 (x3 + (1 : Int32)) I
theorem tl_X6_readInto_1_9_8 {G : Gt} (hG : Gok G) (hn : Gn G) {K37 : Int32 → Mem → Option (Int32 × Mem)} (hK37 : ∀ (x2 : Int32) (I : Mem), J G (mu_X6_readInto_1_9 G) 37 [none, none, some (.int x2), none] [] I (K37 x2 I)) {K49 : Int32 → Mem → Option (Int32 × Mem)} (hK49 : ∀ (x2 : Int32) (I : Mem), J G (mu_X6_readInto_1_9 G) 49 [some (.ref 1), none, some (.int x2), none] [] I (K49 x2 I)) (n : Nat) : ∀ (x2 : Int32) (x3 : Int32) (I : Mem), J G (mu_X6_readInto_1_9 G) 8 [some (.ref 1), some (.ref 9), some (.int x2), some (.int x3)] [] I (l_X6_readInto_1_9_8 K37 K49 n x2 x3 I) := by
  induction n with
  | zero => intro x2 x3 I; exact J_none
  | succ n ih => intro x2 x3 I; exact tb_X6_readInto_1_9_8 hG hn hK37 hK49 ih x2 x3 I
set_option maxRecDepth 100000 in
theorem c_X6_readInto_1_9 {G : Gt} (hG : Gok G) (hn : Gn G) (I : Mem) : Cti G yX6_readInto cX6_readInto 4 (some .int) 7 164 [.ref 1, .ref 9] I (f_X6_readInto_1_9 I) := by
  refine Cti.of (ls := [some (.ref 1), some (.ref 9), none, none]) 2 hG (by decide) rfl (Nat.le_of_ble_eq_true rfl) ?_
  unfold f_X6_readInto_1_9
  refine J_aload_n (pc := 0) (x := 9) dX6_readInto_0 rfl ?_
  refine J_callVv (pc := 1) (t := 7) (as := []) (st := []) (c_X7_tellNothing_9 hG hn I) (ok_c hn 9 (by decide) rfl) (by decide) rfl (cw_RX6_19 rfl) wd_11 wd_10 rfl ⟨Nat.le_of_ble_eq_true rfl, Nat.le_of_ble_eq_true rfl, Nat.le_of_ble_eq_true rfl, Nat.le_of_ble_eq_true rfl⟩ (Nat.le_of_ble_eq_true rfl) rfl dX6_readInto_1 (fun I1 => ?_)
  refine J_iconst (pc := 4) (v := (0 : Int32)) dX6_readInto_4 (by decide) ?_
  refine J_istore_n (pc := 5) (ls' := [some (.ref 1), some (.ref 9), some (.int (0 : Int32)), none]) dX6_readInto_5 (Nat.le_of_ble_eq_true rfl) rfl rfl ?_
  refine J_iconst (pc := 6) (v := (0 : Int32)) dX6_readInto_6 (by decide) ?_
  refine J_istore_n (pc := 7) (ls' := [some (.ref 1), some (.ref 9), some (.int (0 : Int32)), some (.int (0 : Int32))]) dX6_readInto_7 (Nat.le_of_ble_eq_true rfl) rfl rfl ?_
  refine tl_X6_readInto_1_9_8 hG hn (fun z5 I6 => ?_) (fun z7 I8 => ?_) fuel (0 : Int32) (0 : Int32) I1
  · refine J_iload_n (pc := 37) (x := z5) dX6_readInto_37 rfl ?_
    exact J_iret (pc := 38) dX6_readInto_38
  · refine J_iload_n (pc := 49) (x := z7) dX6_readInto_49 rfl ?_
    refine J_aload_n (pc := 50) (x := 1) dX6_readInto_50 rfl ?_
    refine J_get (pc := 51) (t := 6) (k := 1) (.int (I8 1 1)) (ok_c hn 1 (by decide) rfl) (by decide) rfl ingX6 (by decide) wd_14 rfl dX6_readInto_51 ?_
    refine J_icmp_ge (pc := 54) (tgt := 61) dX6_readInto_54 (by decide) ?_ ?_
    · refine J_bipush (pc := 61) (v := (-4 : Int32)) dX6_readInto_61 (by decide) ?_
      exact J_iret (pc := 63) dX6_readInto_63
    · refine J_iload_n (pc := 57) (x := z7) dX6_readInto_57 rfl ?_
      refine J_goto (pc := 58) (tgt := 63) dX6_readInto_58 (by decide) ?_
      exact J_iret (pc := 63) dX6_readInto_63
abbrev mu_X7_copyRow_10_4 (G : Gt) : Mt Mem := mv G cX7_copyRow 3 yX7_copyRow.cls 0 0
def b_X7_copyRow_10_4_2 (K26 : Mem → Option Mem) (R : Int32 → Mem → Option Mem) (x2 : Int32) (I : Mem) : Option Mem :=
  (if (3 : Int32) ≤ x2 then K26 I else (if (3 : Int32) ≤ x2 then K26 I else ck (inb x2 3) <| ck (inb x2 3) <| R (x2 + (1 : Int32)) (stm I 4 (tn x2) (I 10 (tn x2)))))
def l_X7_copyRow_10_4_2 (K26 : Mem → Option Mem) : Nat → Int32 → Mem → Option Mem := fx (b_X7_copyRow_10_4_2 K26) (fun _ _ => none)
def f_X7_copyRow_10_4 (I : Mem) : Option Mem :=
  l_X7_copyRow_10_4_2 (fun I3 => some I3) fuel (0 : Int32) I
set_option maxRecDepth 100000 in
theorem tb_X7_copyRow_10_4_2 {G : Gt} (hG : Gok G) (hn : Gn G) {K26 : Mem → Option Mem} (hK26 : ∀ (I : Mem), J G (mu_X7_copyRow_10_4 G) 26 [none, none, none] [] I (K26 I)) {R : Int32 → Mem → Option Mem} (hR : ∀ (x2 : Int32) (I : Mem), J G (mu_X7_copyRow_10_4 G) 2 [some (.ref 10), some (.ref 4), some (.int x2)] [] I (R x2 I)) (x2 : Int32) (I : Mem) : J G (mu_X7_copyRow_10_4 G) 2 [some (.ref 10), some (.ref 4), some (.int x2)] [] I (b_X7_copyRow_10_4_2 K26 R x2 I) := by
  unfold b_X7_copyRow_10_4_2
  refine J_iload_n (pc := 2) (x := x2) dX7_copyRow_2 rfl ?_
  refine J_aload_n (pc := 3) (x := 10) dX7_copyRow_3 rfl ?_
  refine J_aln (pc := 4) (t := 11) (v := (3 : Int32)) (ok_c hn 10 (by decide) rfl) iT_11 (by decide) dX7_copyRow_4 ?_
  refine J_icmp_ge (pc := 5) (tgt := 26) dX7_copyRow_5 (by decide) ?_ ?_
  · refine J_weak (ls' := [none, none, none]) trivial ?_
    exact hK26 I
  · refine J_iload_n (pc := 8) (x := x2) dX7_copyRow_8 rfl ?_
    refine J_aload_n (pc := 9) (x := 4) dX7_copyRow_9 rfl ?_
    refine J_aln (pc := 10) (t := 11) (v := (3 : Int32)) (ok_c hn 4 (by decide) rfl) iT_11 (by decide) dX7_copyRow_10 ?_
    refine J_icmp_ge (pc := 11) (tgt := 26) dX7_copyRow_11 (by decide) ?_ ?_
    · refine J_weak (ls' := [none, none, none]) trivial ?_
      exact hK26 I
    · refine J_aload_n (pc := 14) (x := 4) dX7_copyRow_14 rfl ?_
      refine J_iload_n (pc := 15) (x := x2) dX7_copyRow_15 rfl ?_
      refine J_aload_n (pc := 16) (x := 10) dX7_copyRow_16 rfl ?_
      refine J_iload_n (pc := 17) (x := x2) dX7_copyRow_17 rfl ?_
      refine J_ck (fun hc1 => ?_)
      refine J_ild (pc := 18) (t := 11) (k := (tn x2)) (ok_c hn 10 (by decide) rfl) iT_11 (inb_in hc1) rfl dX7_copyRow_18 ?_
      refine J_ck (fun hc2 => ?_)
      refine J_ist (pc := 19) (t := 11) (k := (tn x2)) (ok_c hn 4 (by decide) rfl) iT_11 (inb_in hc2) rfl dX7_copyRow_19 ?_
      refine J_iinc (pc := 20) (d := (1 : Int32)) (ls' := [some (.ref 10), some (.ref 4), some (.int (x2 + (1 : Int32)))]) dX7_copyRow_20 (by decide) rfl (Nat.le_of_ble_eq_true rfl) rfl rfl ?_
      refine J_goto (pc := 23) (tgt := 2) dX7_copyRow_23 (by decide) ?_
      exact hR (x2 + (1 : Int32)) (stm I 4 (tn x2) (I 10 (tn x2)))
theorem tl_X7_copyRow_10_4_2 {G : Gt} (hG : Gok G) (hn : Gn G) {K26 : Mem → Option Mem} (hK26 : ∀ (I : Mem), J G (mu_X7_copyRow_10_4 G) 26 [none, none, none] [] I (K26 I)) (n : Nat) : ∀ (x2 : Int32) (I : Mem), J G (mu_X7_copyRow_10_4 G) 2 [some (.ref 10), some (.ref 4), some (.int x2)] [] I (l_X7_copyRow_10_4_2 K26 n x2 I) := by
  induction n with
  | zero => intro x2 I; exact J_none
  | succ n ih => intro x2 I; exact tb_X7_copyRow_10_4_2 hG hn hK26 ih x2 I
set_option maxRecDepth 100000 in
theorem c_X7_copyRow_10_4 {G : Gt} (hG : Gok G) (hn : Gn G) (I : Mem) : Ctv G yX7_copyRow cX7_copyRow 3 0 0 [.ref 10, .ref 4] I (f_X7_copyRow_10_4 I) := by
  refine Ctv.of (ls := [some (.ref 10), some (.ref 4), none]) 1 hG (by decide) rfl (Nat.le_of_ble_eq_true rfl) ?_
  unfold f_X7_copyRow_10_4
  refine J_iconst (pc := 0) (v := (0 : Int32)) dX7_copyRow_0 (by decide) ?_
  refine J_istore_n (pc := 1) (ls' := [some (.ref 10), some (.ref 4), some (.int (0 : Int32))]) dX7_copyRow_1 (Nat.le_of_ble_eq_true rfl) rfl rfl ?_
  refine tl_X7_copyRow_10_4_2 hG hn (fun I3 => ?_) fuel (0 : Int32) I
  · exact J_vret (pc := 26) dX7_copyRow_26
abbrev mu_X7_copyRow_11_5 (G : Gt) : Mt Mem := mv G cX7_copyRow 3 yX7_copyRow.cls 0 0
def b_X7_copyRow_11_5_2 (K26 : Mem → Option Mem) (R : Int32 → Mem → Option Mem) (x2 : Int32) (I : Mem) : Option Mem :=
  (if (4 : Int32) ≤ x2 then K26 I else (if (4 : Int32) ≤ x2 then K26 I else ck (inb x2 4) <| ck (inb x2 4) <| R (x2 + (1 : Int32)) (stm I 5 (tn x2) (I 11 (tn x2)))))
def l_X7_copyRow_11_5_2 (K26 : Mem → Option Mem) : Nat → Int32 → Mem → Option Mem := fx (b_X7_copyRow_11_5_2 K26) (fun _ _ => none)
def f_X7_copyRow_11_5 (I : Mem) : Option Mem :=
  l_X7_copyRow_11_5_2 (fun I3 => some I3) fuel (0 : Int32) I
set_option maxRecDepth 100000 in
theorem tb_X7_copyRow_11_5_2 {G : Gt} (hG : Gok G) (hn : Gn G) {K26 : Mem → Option Mem} (hK26 : ∀ (I : Mem), J G (mu_X7_copyRow_11_5 G) 26 [none, none, none] [] I (K26 I)) {R : Int32 → Mem → Option Mem} (hR : ∀ (x2 : Int32) (I : Mem), J G (mu_X7_copyRow_11_5 G) 2 [some (.ref 11), some (.ref 5), some (.int x2)] [] I (R x2 I)) (x2 : Int32) (I : Mem) : J G (mu_X7_copyRow_11_5 G) 2 [some (.ref 11), some (.ref 5), some (.int x2)] [] I (b_X7_copyRow_11_5_2 K26 R x2 I) := by
  unfold b_X7_copyRow_11_5_2
  refine J_iload_n (pc := 2) (x := x2) dX7_copyRow_2 rfl ?_
  refine J_aload_n (pc := 3) (x := 11) dX7_copyRow_3 rfl ?_
  refine J_aln (pc := 4) (t := 12) (v := (4 : Int32)) (ok_c hn 11 (by decide) rfl) iT_12 (by decide) dX7_copyRow_4 ?_
  refine J_icmp_ge (pc := 5) (tgt := 26) dX7_copyRow_5 (by decide) ?_ ?_
  · refine J_weak (ls' := [none, none, none]) trivial ?_
    exact hK26 I
  · refine J_iload_n (pc := 8) (x := x2) dX7_copyRow_8 rfl ?_
    refine J_aload_n (pc := 9) (x := 5) dX7_copyRow_9 rfl ?_
    refine J_aln (pc := 10) (t := 12) (v := (4 : Int32)) (ok_c hn 5 (by decide) rfl) iT_12 (by decide) dX7_copyRow_10 ?_
    refine J_icmp_ge (pc := 11) (tgt := 26) dX7_copyRow_11 (by decide) ?_ ?_
    · refine J_weak (ls' := [none, none, none]) trivial ?_
      exact hK26 I
    · refine J_aload_n (pc := 14) (x := 5) dX7_copyRow_14 rfl ?_
      refine J_iload_n (pc := 15) (x := x2) dX7_copyRow_15 rfl ?_
      refine J_aload_n (pc := 16) (x := 11) dX7_copyRow_16 rfl ?_
      refine J_iload_n (pc := 17) (x := x2) dX7_copyRow_17 rfl ?_
      refine J_ck (fun hc1 => ?_)
      refine J_ild (pc := 18) (t := 12) (k := (tn x2)) (ok_c hn 11 (by decide) rfl) iT_12 (inb_in hc1) rfl dX7_copyRow_18 ?_
      refine J_ck (fun hc2 => ?_)
      refine J_ist (pc := 19) (t := 12) (k := (tn x2)) (ok_c hn 5 (by decide) rfl) iT_12 (inb_in hc2) rfl dX7_copyRow_19 ?_
      refine J_iinc (pc := 20) (d := (1 : Int32)) (ls' := [some (.ref 11), some (.ref 5), some (.int (x2 + (1 : Int32)))]) dX7_copyRow_20 (by decide) rfl (Nat.le_of_ble_eq_true rfl) rfl rfl ?_
      refine J_goto (pc := 23) (tgt := 2) dX7_copyRow_23 (by decide) ?_
      exact hR (x2 + (1 : Int32)) (stm I 5 (tn x2) (I 11 (tn x2)))
theorem tl_X7_copyRow_11_5_2 {G : Gt} (hG : Gok G) (hn : Gn G) {K26 : Mem → Option Mem} (hK26 : ∀ (I : Mem), J G (mu_X7_copyRow_11_5 G) 26 [none, none, none] [] I (K26 I)) (n : Nat) : ∀ (x2 : Int32) (I : Mem), J G (mu_X7_copyRow_11_5 G) 2 [some (.ref 11), some (.ref 5), some (.int x2)] [] I (l_X7_copyRow_11_5_2 K26 n x2 I) := by
  induction n with
  | zero => intro x2 I; exact J_none
  | succ n ih => intro x2 I; exact tb_X7_copyRow_11_5_2 hG hn hK26 ih x2 I
set_option maxRecDepth 100000 in
theorem c_X7_copyRow_11_5 {G : Gt} (hG : Gok G) (hn : Gn G) (I : Mem) : Ctv G yX7_copyRow cX7_copyRow 3 0 0 [.ref 11, .ref 5] I (f_X7_copyRow_11_5 I) := by
  refine Ctv.of (ls := [some (.ref 11), some (.ref 5), none]) 1 hG (by decide) rfl (Nat.le_of_ble_eq_true rfl) ?_
  unfold f_X7_copyRow_11_5
  refine J_iconst (pc := 0) (v := (0 : Int32)) dX7_copyRow_0 (by decide) ?_
  refine J_istore_n (pc := 1) (ls' := [some (.ref 11), some (.ref 5), some (.int (0 : Int32))]) dX7_copyRow_1 (Nat.le_of_ble_eq_true rfl) rfl rfl ?_
  refine tl_X7_copyRow_11_5_2 hG hn (fun I3 => ?_) fuel (0 : Int32) I
  · exact J_vret (pc := 26) dX7_copyRow_26
abbrev mu_X7_copyRow_12_6 (G : Gt) : Mt Mem := mv G cX7_copyRow 3 yX7_copyRow.cls 0 0
def b_X7_copyRow_12_6_2 (K26 : Mem → Option Mem) (R : Int32 → Mem → Option Mem) (x2 : Int32) (I : Mem) : Option Mem :=
  (if (4 : Int32) ≤ x2 then K26 I else (if (4 : Int32) ≤ x2 then K26 I else ck (inb x2 4) <| ck (inb x2 4) <| R (x2 + (1 : Int32)) (stm I 6 (tn x2) (I 12 (tn x2)))))
def l_X7_copyRow_12_6_2 (K26 : Mem → Option Mem) : Nat → Int32 → Mem → Option Mem := fx (b_X7_copyRow_12_6_2 K26) (fun _ _ => none)
def f_X7_copyRow_12_6 (I : Mem) : Option Mem :=
  l_X7_copyRow_12_6_2 (fun I3 => some I3) fuel (0 : Int32) I
set_option maxRecDepth 100000 in
theorem tb_X7_copyRow_12_6_2 {G : Gt} (hG : Gok G) (hn : Gn G) {K26 : Mem → Option Mem} (hK26 : ∀ (I : Mem), J G (mu_X7_copyRow_12_6 G) 26 [none, none, none] [] I (K26 I)) {R : Int32 → Mem → Option Mem} (hR : ∀ (x2 : Int32) (I : Mem), J G (mu_X7_copyRow_12_6 G) 2 [some (.ref 12), some (.ref 6), some (.int x2)] [] I (R x2 I)) (x2 : Int32) (I : Mem) : J G (mu_X7_copyRow_12_6 G) 2 [some (.ref 12), some (.ref 6), some (.int x2)] [] I (b_X7_copyRow_12_6_2 K26 R x2 I) := by
  unfold b_X7_copyRow_12_6_2
  refine J_iload_n (pc := 2) (x := x2) dX7_copyRow_2 rfl ?_
  refine J_aload_n (pc := 3) (x := 12) dX7_copyRow_3 rfl ?_
  refine J_aln (pc := 4) (t := 13) (v := (4 : Int32)) (ok_c hn 12 (by decide) rfl) iT_13 (by decide) dX7_copyRow_4 ?_
  refine J_icmp_ge (pc := 5) (tgt := 26) dX7_copyRow_5 (by decide) ?_ ?_
  · refine J_weak (ls' := [none, none, none]) trivial ?_
    exact hK26 I
  · refine J_iload_n (pc := 8) (x := x2) dX7_copyRow_8 rfl ?_
    refine J_aload_n (pc := 9) (x := 6) dX7_copyRow_9 rfl ?_
    refine J_aln (pc := 10) (t := 13) (v := (4 : Int32)) (ok_c hn 6 (by decide) rfl) iT_13 (by decide) dX7_copyRow_10 ?_
    refine J_icmp_ge (pc := 11) (tgt := 26) dX7_copyRow_11 (by decide) ?_ ?_
    · refine J_weak (ls' := [none, none, none]) trivial ?_
      exact hK26 I
    · refine J_aload_n (pc := 14) (x := 6) dX7_copyRow_14 rfl ?_
      refine J_iload_n (pc := 15) (x := x2) dX7_copyRow_15 rfl ?_
      refine J_aload_n (pc := 16) (x := 12) dX7_copyRow_16 rfl ?_
      refine J_iload_n (pc := 17) (x := x2) dX7_copyRow_17 rfl ?_
      refine J_ck (fun hc1 => ?_)
      refine J_ild (pc := 18) (t := 13) (k := (tn x2)) (ok_c hn 12 (by decide) rfl) iT_13 (inb_in hc1) rfl dX7_copyRow_18 ?_
      refine J_ck (fun hc2 => ?_)
      refine J_ist (pc := 19) (t := 13) (k := (tn x2)) (ok_c hn 6 (by decide) rfl) iT_13 (inb_in hc2) rfl dX7_copyRow_19 ?_
      refine J_iinc (pc := 20) (d := (1 : Int32)) (ls' := [some (.ref 12), some (.ref 6), some (.int (x2 + (1 : Int32)))]) dX7_copyRow_20 (by decide) rfl (Nat.le_of_ble_eq_true rfl) rfl rfl ?_
      refine J_goto (pc := 23) (tgt := 2) dX7_copyRow_23 (by decide) ?_
      exact hR (x2 + (1 : Int32)) (stm I 6 (tn x2) (I 12 (tn x2)))
theorem tl_X7_copyRow_12_6_2 {G : Gt} (hG : Gok G) (hn : Gn G) {K26 : Mem → Option Mem} (hK26 : ∀ (I : Mem), J G (mu_X7_copyRow_12_6 G) 26 [none, none, none] [] I (K26 I)) (n : Nat) : ∀ (x2 : Int32) (I : Mem), J G (mu_X7_copyRow_12_6 G) 2 [some (.ref 12), some (.ref 6), some (.int x2)] [] I (l_X7_copyRow_12_6_2 K26 n x2 I) := by
  induction n with
  | zero => intro x2 I; exact J_none
  | succ n ih => intro x2 I; exact tb_X7_copyRow_12_6_2 hG hn hK26 ih x2 I
set_option maxRecDepth 100000 in
theorem c_X7_copyRow_12_6 {G : Gt} (hG : Gok G) (hn : Gn G) (I : Mem) : Ctv G yX7_copyRow cX7_copyRow 3 0 0 [.ref 12, .ref 6] I (f_X7_copyRow_12_6 I) := by
  refine Ctv.of (ls := [some (.ref 12), some (.ref 6), none]) 1 hG (by decide) rfl (Nat.le_of_ble_eq_true rfl) ?_
  unfold f_X7_copyRow_12_6
  refine J_iconst (pc := 0) (v := (0 : Int32)) dX7_copyRow_0 (by decide) ?_
  refine J_istore_n (pc := 1) (ls' := [some (.ref 12), some (.ref 6), some (.int (0 : Int32))]) dX7_copyRow_1 (Nat.le_of_ble_eq_true rfl) rfl rfl ?_
  refine tl_X7_copyRow_12_6_2 hG hn (fun I3 => ?_) fuel (0 : Int32) I
  · exact J_vret (pc := 26) dX7_copyRow_26
abbrev mu_X7_copyRow_13_7 (G : Gt) : Mt Mem := mv G cX7_copyRow 3 yX7_copyRow.cls 0 0
def b_X7_copyRow_13_7_2 (K26 : Mem → Option Mem) (R : Int32 → Mem → Option Mem) (x2 : Int32) (I : Mem) : Option Mem :=
  (if (4 : Int32) ≤ x2 then K26 I else (if (4 : Int32) ≤ x2 then K26 I else ck (inb x2 4) <| ck (inb x2 4) <| R (x2 + (1 : Int32)) (stm I 7 (tn x2) (I 13 (tn x2)))))
def l_X7_copyRow_13_7_2 (K26 : Mem → Option Mem) : Nat → Int32 → Mem → Option Mem := fx (b_X7_copyRow_13_7_2 K26) (fun _ _ => none)
def f_X7_copyRow_13_7 (I : Mem) : Option Mem :=
  l_X7_copyRow_13_7_2 (fun I3 => some I3) fuel (0 : Int32) I
set_option maxRecDepth 100000 in
theorem tb_X7_copyRow_13_7_2 {G : Gt} (hG : Gok G) (hn : Gn G) {K26 : Mem → Option Mem} (hK26 : ∀ (I : Mem), J G (mu_X7_copyRow_13_7 G) 26 [none, none, none] [] I (K26 I)) {R : Int32 → Mem → Option Mem} (hR : ∀ (x2 : Int32) (I : Mem), J G (mu_X7_copyRow_13_7 G) 2 [some (.ref 13), some (.ref 7), some (.int x2)] [] I (R x2 I)) (x2 : Int32) (I : Mem) : J G (mu_X7_copyRow_13_7 G) 2 [some (.ref 13), some (.ref 7), some (.int x2)] [] I (b_X7_copyRow_13_7_2 K26 R x2 I) := by
  unfold b_X7_copyRow_13_7_2
  refine J_iload_n (pc := 2) (x := x2) dX7_copyRow_2 rfl ?_
  refine J_aload_n (pc := 3) (x := 13) dX7_copyRow_3 rfl ?_
  refine J_aln (pc := 4) (t := 14) (v := (4 : Int32)) (ok_c hn 13 (by decide) rfl) iT_14 (by decide) dX7_copyRow_4 ?_
  refine J_icmp_ge (pc := 5) (tgt := 26) dX7_copyRow_5 (by decide) ?_ ?_
  · refine J_weak (ls' := [none, none, none]) trivial ?_
    exact hK26 I
  · refine J_iload_n (pc := 8) (x := x2) dX7_copyRow_8 rfl ?_
    refine J_aload_n (pc := 9) (x := 7) dX7_copyRow_9 rfl ?_
    refine J_aln (pc := 10) (t := 14) (v := (4 : Int32)) (ok_c hn 7 (by decide) rfl) iT_14 (by decide) dX7_copyRow_10 ?_
    refine J_icmp_ge (pc := 11) (tgt := 26) dX7_copyRow_11 (by decide) ?_ ?_
    · refine J_weak (ls' := [none, none, none]) trivial ?_
      exact hK26 I
    · refine J_aload_n (pc := 14) (x := 7) dX7_copyRow_14 rfl ?_
      refine J_iload_n (pc := 15) (x := x2) dX7_copyRow_15 rfl ?_
      refine J_aload_n (pc := 16) (x := 13) dX7_copyRow_16 rfl ?_
      refine J_iload_n (pc := 17) (x := x2) dX7_copyRow_17 rfl ?_
      refine J_ck (fun hc1 => ?_)
      refine J_ild (pc := 18) (t := 14) (k := (tn x2)) (ok_c hn 13 (by decide) rfl) iT_14 (inb_in hc1) rfl dX7_copyRow_18 ?_
      refine J_ck (fun hc2 => ?_)
      refine J_ist (pc := 19) (t := 14) (k := (tn x2)) (ok_c hn 7 (by decide) rfl) iT_14 (inb_in hc2) rfl dX7_copyRow_19 ?_
      refine J_iinc (pc := 20) (d := (1 : Int32)) (ls' := [some (.ref 13), some (.ref 7), some (.int (x2 + (1 : Int32)))]) dX7_copyRow_20 (by decide) rfl (Nat.le_of_ble_eq_true rfl) rfl rfl ?_
      refine J_goto (pc := 23) (tgt := 2) dX7_copyRow_23 (by decide) ?_
      exact hR (x2 + (1 : Int32)) (stm I 7 (tn x2) (I 13 (tn x2)))
theorem tl_X7_copyRow_13_7_2 {G : Gt} (hG : Gok G) (hn : Gn G) {K26 : Mem → Option Mem} (hK26 : ∀ (I : Mem), J G (mu_X7_copyRow_13_7 G) 26 [none, none, none] [] I (K26 I)) (n : Nat) : ∀ (x2 : Int32) (I : Mem), J G (mu_X7_copyRow_13_7 G) 2 [some (.ref 13), some (.ref 7), some (.int x2)] [] I (l_X7_copyRow_13_7_2 K26 n x2 I) := by
  induction n with
  | zero => intro x2 I; exact J_none
  | succ n ih => intro x2 I; exact tb_X7_copyRow_13_7_2 hG hn hK26 ih x2 I
set_option maxRecDepth 100000 in
theorem c_X7_copyRow_13_7 {G : Gt} (hG : Gok G) (hn : Gn G) (I : Mem) : Ctv G yX7_copyRow cX7_copyRow 3 0 0 [.ref 13, .ref 7] I (f_X7_copyRow_13_7 I) := by
  refine Ctv.of (ls := [some (.ref 13), some (.ref 7), none]) 1 hG (by decide) rfl (Nat.le_of_ble_eq_true rfl) ?_
  unfold f_X7_copyRow_13_7
  refine J_iconst (pc := 0) (v := (0 : Int32)) dX7_copyRow_0 (by decide) ?_
  refine J_istore_n (pc := 1) (ls' := [some (.ref 13), some (.ref 7), some (.int (0 : Int32))]) dX7_copyRow_1 (Nat.le_of_ble_eq_true rfl) rfl rfl ?_
  refine tl_X7_copyRow_13_7_2 hG hn (fun I3 => ?_) fuel (0 : Int32) I
  · exact J_vret (pc := 26) dX7_copyRow_26
abbrev mu_X7_copyRow_14_8 (G : Gt) : Mt Mem := mv G cX7_copyRow 3 yX7_copyRow.cls 0 0
def b_X7_copyRow_14_8_2 (K26 : Mem → Option Mem) (R : Int32 → Mem → Option Mem) (x2 : Int32) (I : Mem) : Option Mem :=
  (if (100 : Int32) ≤ x2 then K26 I else (if (100 : Int32) ≤ x2 then K26 I else ck (inb x2 100) <| ck (inb x2 100) <| R (x2 + (1 : Int32)) (stm I 8 (tn x2) (I 14 (tn x2)))))
def l_X7_copyRow_14_8_2 (K26 : Mem → Option Mem) : Nat → Int32 → Mem → Option Mem := fx (b_X7_copyRow_14_8_2 K26) (fun _ _ => none)
def f_X7_copyRow_14_8 (I : Mem) : Option Mem :=
  l_X7_copyRow_14_8_2 (fun I3 => some I3) fuel (0 : Int32) I
set_option maxRecDepth 100000 in
theorem tb_X7_copyRow_14_8_2 {G : Gt} (hG : Gok G) (hn : Gn G) {K26 : Mem → Option Mem} (hK26 : ∀ (I : Mem), J G (mu_X7_copyRow_14_8 G) 26 [none, none, none] [] I (K26 I)) {R : Int32 → Mem → Option Mem} (hR : ∀ (x2 : Int32) (I : Mem), J G (mu_X7_copyRow_14_8 G) 2 [some (.ref 14), some (.ref 8), some (.int x2)] [] I (R x2 I)) (x2 : Int32) (I : Mem) : J G (mu_X7_copyRow_14_8 G) 2 [some (.ref 14), some (.ref 8), some (.int x2)] [] I (b_X7_copyRow_14_8_2 K26 R x2 I) := by
  unfold b_X7_copyRow_14_8_2
  refine J_iload_n (pc := 2) (x := x2) dX7_copyRow_2 rfl ?_
  refine J_aload_n (pc := 3) (x := 14) dX7_copyRow_3 rfl ?_
  refine J_aln (pc := 4) (t := 15) (v := (100 : Int32)) (ok_c hn 14 (by decide) rfl) iT_15 (by decide) dX7_copyRow_4 ?_
  refine J_icmp_ge (pc := 5) (tgt := 26) dX7_copyRow_5 (by decide) ?_ ?_
  · refine J_weak (ls' := [none, none, none]) trivial ?_
    exact hK26 I
  · refine J_iload_n (pc := 8) (x := x2) dX7_copyRow_8 rfl ?_
    refine J_aload_n (pc := 9) (x := 8) dX7_copyRow_9 rfl ?_
    refine J_aln (pc := 10) (t := 15) (v := (100 : Int32)) (ok_c hn 8 (by decide) rfl) iT_15 (by decide) dX7_copyRow_10 ?_
    refine J_icmp_ge (pc := 11) (tgt := 26) dX7_copyRow_11 (by decide) ?_ ?_
    · refine J_weak (ls' := [none, none, none]) trivial ?_
      exact hK26 I
    · refine J_aload_n (pc := 14) (x := 8) dX7_copyRow_14 rfl ?_
      refine J_iload_n (pc := 15) (x := x2) dX7_copyRow_15 rfl ?_
      refine J_aload_n (pc := 16) (x := 14) dX7_copyRow_16 rfl ?_
      refine J_iload_n (pc := 17) (x := x2) dX7_copyRow_17 rfl ?_
      refine J_ck (fun hc1 => ?_)
      refine J_ild (pc := 18) (t := 15) (k := (tn x2)) (ok_c hn 14 (by decide) rfl) iT_15 (inb_in hc1) rfl dX7_copyRow_18 ?_
      refine J_ck (fun hc2 => ?_)
      refine J_ist (pc := 19) (t := 15) (k := (tn x2)) (ok_c hn 8 (by decide) rfl) iT_15 (inb_in hc2) rfl dX7_copyRow_19 ?_
      refine J_iinc (pc := 20) (d := (1 : Int32)) (ls' := [some (.ref 14), some (.ref 8), some (.int (x2 + (1 : Int32)))]) dX7_copyRow_20 (by decide) rfl (Nat.le_of_ble_eq_true rfl) rfl rfl ?_
      refine J_goto (pc := 23) (tgt := 2) dX7_copyRow_23 (by decide) ?_
      exact hR (x2 + (1 : Int32)) (stm I 8 (tn x2) (I 14 (tn x2)))
theorem tl_X7_copyRow_14_8_2 {G : Gt} (hG : Gok G) (hn : Gn G) {K26 : Mem → Option Mem} (hK26 : ∀ (I : Mem), J G (mu_X7_copyRow_14_8 G) 26 [none, none, none] [] I (K26 I)) (n : Nat) : ∀ (x2 : Int32) (I : Mem), J G (mu_X7_copyRow_14_8 G) 2 [some (.ref 14), some (.ref 8), some (.int x2)] [] I (l_X7_copyRow_14_8_2 K26 n x2 I) := by
  induction n with
  | zero => intro x2 I; exact J_none
  | succ n ih => intro x2 I; exact tb_X7_copyRow_14_8_2 hG hn hK26 ih x2 I
set_option maxRecDepth 100000 in
theorem c_X7_copyRow_14_8 {G : Gt} (hG : Gok G) (hn : Gn G) (I : Mem) : Ctv G yX7_copyRow cX7_copyRow 3 0 0 [.ref 14, .ref 8] I (f_X7_copyRow_14_8 I) := by
  refine Ctv.of (ls := [some (.ref 14), some (.ref 8), none]) 1 hG (by decide) rfl (Nat.le_of_ble_eq_true rfl) ?_
  unfold f_X7_copyRow_14_8
  refine J_iconst (pc := 0) (v := (0 : Int32)) dX7_copyRow_0 (by decide) ?_
  refine J_istore_n (pc := 1) (ls' := [some (.ref 14), some (.ref 8), some (.int (0 : Int32))]) dX7_copyRow_1 (Nat.le_of_ble_eq_true rfl) rfl rfl ?_
  refine tl_X7_copyRow_14_8_2 hG hn (fun I3 => ?_) fuel (0 : Int32) I
  · exact J_vret (pc := 26) dX7_copyRow_26
abbrev mu_X7_copyFrom_3_9 (G : Gt) : Mt Mem := mv G cX7_copyFrom 2 yX7_copyFrom.cls 1 22
def f_X7_copyFrom_3_9 (I : Mem) : Option Mem :=
  bV (f_X7_copyRow_10_4 (stm I 3 0 (I 9 0))) fun I1 => bV (f_X7_copyRow_11_5 I1) fun I2 => bV (f_X7_copyRow_12_6 I2) fun I3 => bV (f_X7_copyRow_13_7 I3) fun I4 => bV (f_X7_copyRow_14_8 I4) fun I5 => some I5
set_option maxRecDepth 100000 in
theorem c_X7_copyFrom_3_9 {G : Gt} (hG : Gok G) (hn : Gn G) (I : Mem) : Ctv G yX7_copyFrom cX7_copyFrom 2 1 22 [.ref 3, .ref 9] I (f_X7_copyFrom_3_9 I) := by
  refine Ctv.of (ls := [some (.ref 3), some (.ref 9)]) 0 hG (by decide) rfl (Nat.le_of_ble_eq_true rfl) ?_
  unfold f_X7_copyFrom_3_9
  refine J_aload_n (pc := 0) (x := 3) dX7_copyFrom_0 rfl ?_
  refine J_aload_n (pc := 1) (x := 9) dX7_copyFrom_1 rfl ?_
  refine J_get (pc := 2) (t := 7) (k := 0) (.int (I 9 0)) (ok_c hn 9 (by decide) rfl) (by decide) rfl ingX7 (by decide) wd_2 rfl dX7_copyFrom_2 ?_
  refine J_put (pc := 5) (t := 7) (k := 0) (ok_c hn 3 (by decide) rfl) (by decide) rfl ingX7 tyX7 tyX7_ok nmX7 (by decide) wd_2 rfl pfI (Nat.le_of_ble_eq_true rfl) rfl dX7_copyFrom_5 ?_
  refine J_aload_n (pc := 8) (x := 9) dX7_copyFrom_8 rfl ?_
  refine J_get (pc := 9) (t := 7) (k := 1) (.ref 10) (ok_c hn 9 (by decide) rfl) (by decide) rfl ingX7 (by decide) wd_3 rfl dX7_copyFrom_9 ?_
  refine J_aload_n (pc := 12) (x := 3) dX7_copyFrom_12 rfl ?_
  refine J_get (pc := 13) (t := 7) (k := 1) (.ref 4) (ok_c hn 3 (by decide) rfl) (by decide) rfl ingX7 (by decide) wd_3 rfl dX7_copyFrom_13 ?_
  refine J_callSv (pc := 16) (as := [.ref 10, .ref 4]) (st := []) (c_X7_copyRow_10_4 hG hn (stm I 3 0 (I 9 0))) (cw_RX7_37 rfl) wd_73 rfl ⟨Nat.le_of_ble_eq_true rfl, Nat.le_of_ble_eq_true rfl, Nat.le_of_ble_eq_true rfl, Nat.le_of_ble_eq_true rfl⟩ (Nat.le_of_ble_eq_true rfl) rfl dX7_copyFrom_16 (fun I1 => ?_)
  refine J_aload_n (pc := 19) (x := 9) dX7_copyFrom_19 rfl ?_
  refine J_get (pc := 20) (t := 7) (k := 2) (.ref 11) (ok_c hn 9 (by decide) rfl) (by decide) rfl ingX7 (by decide) wd_34 rfl dX7_copyFrom_20 ?_
  refine J_aload_n (pc := 23) (x := 3) dX7_copyFrom_23 rfl ?_
  refine J_get (pc := 24) (t := 7) (k := 2) (.ref 5) (ok_c hn 3 (by decide) rfl) (by decide) rfl ingX7 (by decide) wd_34 rfl dX7_copyFrom_24 ?_
  refine J_callSv (pc := 27) (as := [.ref 11, .ref 5]) (st := []) (c_X7_copyRow_11_5 hG hn I1) (cw_RX7_37 rfl) wd_73 rfl ⟨Nat.le_of_ble_eq_true rfl, Nat.le_of_ble_eq_true rfl, Nat.le_of_ble_eq_true rfl, Nat.le_of_ble_eq_true rfl⟩ (Nat.le_of_ble_eq_true rfl) rfl dX7_copyFrom_27 (fun I2 => ?_)
  refine J_aload_n (pc := 30) (x := 9) dX7_copyFrom_30 rfl ?_
  refine J_get (pc := 31) (t := 7) (k := 3) (.ref 12) (ok_c hn 9 (by decide) rfl) (by decide) rfl ingX7 (by decide) wd_35 rfl dX7_copyFrom_31 ?_
  refine J_aload_n (pc := 34) (x := 3) dX7_copyFrom_34 rfl ?_
  refine J_get (pc := 35) (t := 7) (k := 3) (.ref 6) (ok_c hn 3 (by decide) rfl) (by decide) rfl ingX7 (by decide) wd_35 rfl dX7_copyFrom_35 ?_
  refine J_callSv (pc := 38) (as := [.ref 12, .ref 6]) (st := []) (c_X7_copyRow_12_6 hG hn I2) (cw_RX7_37 rfl) wd_73 rfl ⟨Nat.le_of_ble_eq_true rfl, Nat.le_of_ble_eq_true rfl, Nat.le_of_ble_eq_true rfl, Nat.le_of_ble_eq_true rfl⟩ (Nat.le_of_ble_eq_true rfl) rfl dX7_copyFrom_38 (fun I3 => ?_)
  refine J_aload_n (pc := 41) (x := 9) dX7_copyFrom_41 rfl ?_
  refine J_get (pc := 42) (t := 7) (k := 4) (.ref 13) (ok_c hn 9 (by decide) rfl) (by decide) rfl ingX7 (by decide) wd_36 rfl dX7_copyFrom_42 ?_
  refine J_aload_n (pc := 45) (x := 3) dX7_copyFrom_45 rfl ?_
  refine J_get (pc := 46) (t := 7) (k := 4) (.ref 7) (ok_c hn 3 (by decide) rfl) (by decide) rfl ingX7 (by decide) wd_36 rfl dX7_copyFrom_46 ?_
  refine J_callSv (pc := 49) (as := [.ref 13, .ref 7]) (st := []) (c_X7_copyRow_13_7 hG hn I3) (cw_RX7_37 rfl) wd_73 rfl ⟨Nat.le_of_ble_eq_true rfl, Nat.le_of_ble_eq_true rfl, Nat.le_of_ble_eq_true rfl, Nat.le_of_ble_eq_true rfl⟩ (Nat.le_of_ble_eq_true rfl) rfl dX7_copyFrom_49 (fun I4 => ?_)
  refine J_aload_n (pc := 52) (x := 9) dX7_copyFrom_52 rfl ?_
  refine J_get (pc := 53) (t := 7) (k := 5) (.ref 14) (ok_c hn 9 (by decide) rfl) (by decide) rfl ingX7 (by decide) wd_4 rfl dX7_copyFrom_53 ?_
  refine J_aload_n (pc := 56) (x := 3) dX7_copyFrom_56 rfl ?_
  refine J_get (pc := 57) (t := 7) (k := 5) (.ref 8) (ok_c hn 3 (by decide) rfl) (by decide) rfl ingX7 (by decide) wd_4 rfl dX7_copyFrom_57 ?_
  refine J_callSv (pc := 60) (as := [.ref 14, .ref 8]) (st := []) (c_X7_copyRow_14_8 hG hn I4) (cw_RX7_37 rfl) wd_73 rfl ⟨Nat.le_of_ble_eq_true rfl, Nat.le_of_ble_eq_true rfl, Nat.le_of_ble_eq_true rfl, Nat.le_of_ble_eq_true rfl⟩ (Nat.le_of_ble_eq_true rfl) rfl dX7_copyFrom_60 (fun I5 => ?_)
  exact J_vret (pc := 63) dX7_copyFrom_63
abbrev mu_X5_figureAt (G : Gt) : Mt (Int32 × Mem) := mi G cX5_figureAt 3 yX5_figureAt.cls (some .int) 0 0
def f_X5_figureAt (x0 : Int32) (x1 : Int32) (x2 : Int32) (I : Mem) : Option (Int32 × Mem) :=
  some (((x1 >>> (((2 : Int32) * ((x0 - (1 : Int32)) - x2)) &&& 31)) &&& (3 : Int32)), I)
set_option maxRecDepth 100000 in
theorem c_X5_figureAt {G : Gt} (hG : Gok G) (hn : Gn G) (x0 : Int32) (x1 : Int32) (x2 : Int32) (I : Mem) : Cti G yX5_figureAt cX5_figureAt 3 (some .int) 0 0 [.int x0, .int x1, .int x2] I (f_X5_figureAt x0 x1 x2 I) := by
  refine Cti.of (ls := [some (.int x0), some (.int x1), some (.int x2)]) 0 hG (by decide) rfl (Nat.le_of_ble_eq_true rfl) ?_
  unfold f_X5_figureAt
  refine J_iload_n (pc := 0) (x := x1) dX5_figureAt_0 rfl ?_
  refine J_iconst (pc := 1) (v := (2 : Int32)) dX5_figureAt_1 (by decide) ?_
  refine J_iload_n (pc := 2) (x := x0) dX5_figureAt_2 rfl ?_
  refine J_iconst (pc := 3) (v := (1 : Int32)) dX5_figureAt_3 (by decide) ?_
  refine J_isub (pc := 4) dX5_figureAt_4 ?_
  refine J_iload_n (pc := 5) (x := x2) dX5_figureAt_5 rfl ?_
  refine J_isub (pc := 6) dX5_figureAt_6 ?_
  refine J_imul (pc := 7) dX5_figureAt_7 ?_
  refine J_ishr (pc := 8) dX5_figureAt_8 ?_
  refine J_iconst (pc := 9) (v := (3 : Int32)) dX5_figureAt_9 (by decide) ?_
  refine J_iand (pc := 10) dX5_figureAt_10 ?_
  exact J_iret (pc := 11) dX5_figureAt_11
abbrev mu_X5_leaves (G : Gt) : Mt (Int32 × Mem) := mi G cX5_leaves 1 yX5_leaves.cls (some .int) 1 21
def f_X5_leaves (a0 : Nat) (I : Mem) : Option (Int32 × Mem) :=
  some ((if (16 : Int32) < ((I a0 0) * (I a0 1)) then (16 : Int32) else ((I a0 0) * (I a0 1))), I)
set_option maxRecDepth 100000 in
theorem c_X5_leaves {G : Gt} (hG : Gok G) (hn : Gn G) (a0 : Nat) (o0 : ok G a0 5) (I : Mem) : Cti G yX5_leaves cX5_leaves 1 (some .int) 1 21 [.ref a0] I (f_X5_leaves a0 I) := by
  refine Cti.of (ls := [some (.ref a0)]) 0 hG (by decide) rfl (Nat.le_of_ble_eq_true rfl) ?_
  unfold f_X5_leaves
  refine J_aload_n (pc := 0) (x := a0) dX5_leaves_0 rfl ?_
  refine J_get (pc := 1) (t := 5) (k := 0) (.int (I a0 0)) o0 (by decide) rfl ingX5 (by decide) wd_90 rfl dX5_leaves_1 ?_
  refine J_aload_n (pc := 4) (x := a0) dX5_leaves_4 rfl ?_
  refine J_get (pc := 5) (t := 5) (k := 1) (.int (I a0 1)) o0 (by decide) rfl ingX5 (by decide) wd_91 rfl dX5_leaves_5 ?_
  refine J_imul (pc := 8) dX5_leaves_8 ?_
  refine J_bipush (pc := 9) (v := (16 : Int32)) dX5_leaves_9 (by decide) ?_
  refine J_min (pc := 11) wd_92 wd_93 wd_94 wd_95 ⟨Nat.le_of_ble_eq_true rfl, Nat.le_of_ble_eq_true rfl⟩ ⟨Nat.le_of_ble_eq_true rfl, Nat.le_of_ble_eq_true rfl⟩ dX5_leaves_11 ?_
  exact J_iret (pc := 14) dX5_leaves_14
abbrev mu_X5_columnAt (G : Gt) : Mt (Int32 × Mem) := mi G cX5_columnAt 2 yX5_columnAt.cls (some .int) 0 0
def f_X5_columnAt (a0 : Nat) (x1 : Int32) (I : Mem) : Option (Int32 × Mem) :=
  some ((x1 &&& ((I a0 0) - (1 : Int32))), I)
set_option maxRecDepth 100000 in
theorem c_X5_columnAt {G : Gt} (hG : Gok G) (hn : Gn G) (a0 : Nat) (x1 : Int32) (o0 : ok G a0 5) (I : Mem) : Cti G yX5_columnAt cX5_columnAt 2 (some .int) 0 0 [.ref a0, .int x1] I (f_X5_columnAt a0 x1 I) := by
  refine Cti.of (ls := [some (.ref a0), some (.int x1)]) 0 hG (by decide) rfl (Nat.le_of_ble_eq_true rfl) ?_
  unfold f_X5_columnAt
  refine J_iload_n (pc := 0) (x := x1) dX5_columnAt_0 rfl ?_
  refine J_aload_n (pc := 1) (x := a0) dX5_columnAt_1 rfl ?_
  refine J_get (pc := 2) (t := 5) (k := 0) (.int (I a0 0)) o0 (by decide) rfl ingX5 (by decide) wd_90 rfl dX5_columnAt_2 ?_
  refine J_iconst (pc := 5) (v := (1 : Int32)) dX5_columnAt_5 (by decide) ?_
  refine J_isub (pc := 6) dX5_columnAt_6 ?_
  refine J_iand (pc := 7) dX5_columnAt_7 ?_
  exact J_iret (pc := 8) dX5_columnAt_8
abbrev mu_X5_rowAt (G : Gt) : Mt (Int32 × Mem) := mi G cX5_rowAt 2 yX5_rowAt.cls (some .int) 0 0
def f_X5_rowAt (a0 : Nat) (x1 : Int32) (I : Mem) : Option (Int32 × Mem) :=
  some ((x1 >>> ((I a0 2) &&& 31)), I)
set_option maxRecDepth 100000 in
theorem c_X5_rowAt {G : Gt} (hG : Gok G) (hn : Gn G) (a0 : Nat) (x1 : Int32) (o0 : ok G a0 5) (I : Mem) : Cti G yX5_rowAt cX5_rowAt 2 (some .int) 0 0 [.ref a0, .int x1] I (f_X5_rowAt a0 x1 I) := by
  refine Cti.of (ls := [some (.ref a0), some (.int x1)]) 0 hG (by decide) rfl (Nat.le_of_ble_eq_true rfl) ?_
  unfold f_X5_rowAt
  refine J_iload_n (pc := 0) (x := x1) dX5_rowAt_0 rfl ?_
  refine J_aload_n (pc := 1) (x := a0) dX5_rowAt_1 rfl ?_
  refine J_get (pc := 2) (t := 5) (k := 2) (.int (I a0 2)) o0 (by decide) rfl ingX5 (by decide) wd_85 rfl dX5_rowAt_2 ?_
  refine J_ishr (pc := 5) dX5_rowAt_5 ?_
  exact J_iret (pc := 6) dX5_rowAt_6
abbrev mu_X3_lieAt (G : Gt) : Mt Mem := mv G cX3_lieAt 5 yX3_lieAt.cls 0 0
def f_X3_lieAt (a0 : Nat) (x1 : Int32) (x2 : Int32) (x3 : Int32) (x4 : Int32) (I : Mem) : Option Mem :=
  some (stm (stm (stm (stm (stm (stm (stm (stm I a0 0 x1) a0 1 x2) a0 2 x3) a0 3 x4) a0 4 (1 : Int32)) a0 5 (0 : Int32)) a0 6 (0 : Int32)) a0 7 (0 : Int32))
set_option maxRecDepth 100000 in
theorem c_X3_lieAt {G : Gt} (hG : Gok G) (hn : Gn G) (a0 : Nat) (x1 : Int32) (x2 : Int32) (x3 : Int32) (x4 : Int32) (o0 : ok G a0 3) (I : Mem) : Ctv G yX3_lieAt cX3_lieAt 5 0 0 [.ref a0, .int x1, .int x2, .int x3, .int x4] I (f_X3_lieAt a0 x1 x2 x3 x4 I) := by
  refine Ctv.of (ls := [some (.ref a0), some (.int x1), some (.int x2), some (.int x3), some (.int x4)]) 0 hG (by decide) rfl (Nat.le_of_ble_eq_true rfl) ?_
  unfold f_X3_lieAt
  refine J_aload_n (pc := 0) (x := a0) dX3_lieAt_0 rfl ?_
  refine J_iload_n (pc := 1) (x := x1) dX3_lieAt_1 rfl ?_
  refine J_put (pc := 2) (t := 3) (k := 0) o0 (by decide) rfl ingX3 tyX3 tyX3_ok nmX3 (by decide) wd_109 rfl pfI (Nat.le_of_ble_eq_true rfl) rfl dX3_lieAt_2 ?_
  refine J_aload_n (pc := 5) (x := a0) dX3_lieAt_5 rfl ?_
  refine J_iload_n (pc := 6) (x := x2) dX3_lieAt_6 rfl ?_
  refine J_put (pc := 7) (t := 3) (k := 1) o0 (by decide) rfl ingX3 tyX3 tyX3_ok nmX3 (by decide) wd_110 rfl pfI (Nat.le_of_ble_eq_true rfl) rfl dX3_lieAt_7 ?_
  refine J_aload_n (pc := 10) (x := a0) dX3_lieAt_10 rfl ?_
  refine J_iload_n (pc := 11) (x := x3) dX3_lieAt_11 rfl ?_
  refine J_put (pc := 12) (t := 3) (k := 2) o0 (by decide) rfl ingX3 tyX3 tyX3_ok nmX3 (by decide) wd_111 rfl pfI (Nat.le_of_ble_eq_true rfl) rfl dX3_lieAt_12 ?_
  refine J_aload_n (pc := 15) (x := a0) dX3_lieAt_15 rfl ?_
  refine J_iload (pc := 16) (x := x4) dX3_lieAt_16 rfl ?_
  refine J_put (pc := 18) (t := 3) (k := 3) o0 (by decide) rfl ingX3 tyX3 tyX3_ok nmX3 (by decide) wd_112 rfl pfI (Nat.le_of_ble_eq_true rfl) rfl dX3_lieAt_18 ?_
  refine J_aload_n (pc := 21) (x := a0) dX3_lieAt_21 rfl ?_
  refine J_iconst (pc := 22) (v := (1 : Int32)) dX3_lieAt_22 (by decide) ?_
  refine J_put (pc := 23) (t := 3) (k := 4) o0 (by decide) rfl ingX3 tyX3 tyX3_ok nmX3 (by decide) wd_113 rfl pfI (Nat.le_of_ble_eq_true rfl) rfl dX3_lieAt_23 ?_
  refine J_aload_n (pc := 26) (x := a0) dX3_lieAt_26 rfl ?_
  refine J_iconst (pc := 27) (v := (0 : Int32)) dX3_lieAt_27 (by decide) ?_
  refine J_put (pc := 28) (t := 3) (k := 5) o0 (by decide) rfl ingX3 tyX3 tyX3_ok nmX3 (by decide) wd_114 rfl pfI (Nat.le_of_ble_eq_true rfl) rfl dX3_lieAt_28 ?_
  refine J_aload_n (pc := 31) (x := a0) dX3_lieAt_31 rfl ?_
  refine J_iconst (pc := 32) (v := (0 : Int32)) dX3_lieAt_32 (by decide) ?_
  refine J_put (pc := 33) (t := 3) (k := 6) o0 (by decide) rfl ingX3 tyX3 tyX3_ok nmX3 (by decide) wd_115 rfl pfI (Nat.le_of_ble_eq_true rfl) rfl dX3_lieAt_33 ?_
  refine J_aload_n (pc := 36) (x := a0) dX3_lieAt_36 rfl ?_
  refine J_iconst (pc := 37) (v := (0 : Int32)) dX3_lieAt_37 (by decide) ?_
  refine J_put (pc := 38) (t := 3) (k := 7) o0 (by decide) rfl ingX3 tyX3 tyX3_ok nmX3 (by decide) wd_116 rfl pfI (Nat.le_of_ble_eq_true rfl) rfl dX3_lieAt_38 ?_
  exact J_vret (pc := 41) dX3_lieAt_41
abbrev mu_X3_stayAt (G : Gt) : Mt Mem := mv G cX3_stayAt 4 yX3_stayAt.cls 0 0
def f_X3_stayAt (a0 : Nat) (x1 : Int32) (x2 : Int32) (x3 : Int32) (I : Mem) : Option Mem :=
  (if x3 = 0 then some (stm (stm I a0 1 x1) a0 3 x2) else some (stm (stm I a0 0 x1) a0 2 x2))
set_option maxRecDepth 100000 in
theorem c_X3_stayAt {G : Gt} (hG : Gok G) (hn : Gn G) (a0 : Nat) (x1 : Int32) (x2 : Int32) (x3 : Int32) (o0 : ok G a0 3) (I : Mem) : Ctv G yX3_stayAt cX3_stayAt 4 0 0 [.ref a0, .int x1, .int x2, .int x3] I (f_X3_stayAt a0 x1 x2 x3 I) := by
  refine Ctv.of (ls := [some (.ref a0), some (.int x1), some (.int x2), some (.int x3)]) 0 hG (by decide) rfl (Nat.le_of_ble_eq_true rfl) ?_
  unfold f_X3_stayAt
  refine J_iload_n (pc := 0) (x := x3) dX3_stayAt_0 rfl ?_
  refine J_if_eq (pc := 1) (tgt := 17) dX3_stayAt_1 (by decide) ?_ ?_
  · refine J_aload_n (pc := 17) (x := a0) dX3_stayAt_17 rfl ?_
    refine J_iload_n (pc := 18) (x := x1) dX3_stayAt_18 rfl ?_
    refine J_put (pc := 19) (t := 3) (k := 1) o0 (by decide) rfl ingX3 tyX3 tyX3_ok nmX3 (by decide) wd_110 rfl pfI (Nat.le_of_ble_eq_true rfl) rfl dX3_stayAt_19 ?_
    refine J_aload_n (pc := 22) (x := a0) dX3_stayAt_22 rfl ?_
    refine J_iload_n (pc := 23) (x := x2) dX3_stayAt_23 rfl ?_
    refine J_put (pc := 24) (t := 3) (k := 3) o0 (by decide) rfl ingX3 tyX3 tyX3_ok nmX3 (by decide) wd_112 rfl pfI (Nat.le_of_ble_eq_true rfl) rfl dX3_stayAt_24 ?_
    exact J_vret (pc := 27) dX3_stayAt_27
  · refine J_aload_n (pc := 4) (x := a0) dX3_stayAt_4 rfl ?_
    refine J_iload_n (pc := 5) (x := x1) dX3_stayAt_5 rfl ?_
    refine J_put (pc := 6) (t := 3) (k := 0) o0 (by decide) rfl ingX3 tyX3 tyX3_ok nmX3 (by decide) wd_109 rfl pfI (Nat.le_of_ble_eq_true rfl) rfl dX3_stayAt_6 ?_
    refine J_aload_n (pc := 9) (x := a0) dX3_stayAt_9 rfl ?_
    refine J_iload_n (pc := 10) (x := x2) dX3_stayAt_10 rfl ?_
    refine J_put (pc := 11) (t := 3) (k := 2) o0 (by decide) rfl ingX3 tyX3 tyX3_ok nmX3 (by decide) wd_111 rfl pfI (Nat.le_of_ble_eq_true rfl) rfl dX3_stayAt_11 ?_
    refine J_goto (pc := 14) (tgt := 27) dX3_stayAt_14 (by decide) ?_
    exact J_vret (pc := 27) dX3_stayAt_27
abbrev mu_X3_takeFold (G : Gt) : Mt Mem := mv G cX3_takeFold 6 yX3_takeFold.cls 1 23
def j_X3_takeFold_132 (a0 : Nat) (x2 : Int32) (x3 : Int32) (x4 : Int32) (x5 : Int32) (I : Mem) : Option Mem :=
  (if x3 = 0 then bV (f_X3_stayAt a0 x4 x5 x2 (stm I a0 4 ((I a0 4) * (2 : Int32)))) fun I3 => some I3 else bV (f_X3_stayAt a0 (x4 - x5) x5 x2 (stm I a0 4 ((I a0 4) * (2 : Int32)))) fun I4 => some I4)
def j_X3_takeFold_70 (a0 : Nat) (x2 : Int32) (x3 : Int32) (x4 : Int32) (x5 : Int32) (y0 : Int32) (y1 : Int32) (I : Mem) : Option Mem :=
  (if y0 = y1 then (if x2 = 0 then j_X3_takeFold_132 a0 x2 x3 ((((2 : Int32) * x5) - (1 : Int32)) - x4) x5 (stm (stm (stm I a0 5 ((((2 : Int32) * (I a0 4)) - (1 : Int32)) - (I a0 5))) a0 6 ((1 : Int32) - ((stm I a0 5 ((((2 : Int32) * (I a0 4)) - (1 : Int32)) - (I a0 5))) a0 6))) a0 7 ((1 : Int32) - ((stm (stm I a0 5 ((((2 : Int32) * (I a0 4)) - (1 : Int32)) - (I a0 5))) a0 6 ((1 : Int32) - ((stm I a0 5 ((((2 : Int32) * (I a0 4)) - (1 : Int32)) - (I a0 5))) a0 6))) a0 7))) else j_X3_takeFold_132 a0 x2 x3 ((((2 : Int32) * x5) - (1 : Int32)) - x4) x5 (stm (stm (stm I a0 5 ((((2 : Int32) * (I a0 4)) - (1 : Int32)) - (I a0 5))) a0 6 ((1 : Int32) - ((stm I a0 5 ((((2 : Int32) * (I a0 4)) - (1 : Int32)) - (I a0 5))) a0 6))) a0 7 ((stm (stm I a0 5 ((((2 : Int32) * (I a0 4)) - (1 : Int32)) - (I a0 5))) a0 6 ((1 : Int32) - ((stm I a0 5 ((((2 : Int32) * (I a0 4)) - (1 : Int32)) - (I a0 5))) a0 6))) a0 7))) else j_X3_takeFold_132 a0 x2 x3 x4 x5 I)
def j_X3_takeFold_36 (a0 : Nat) (x2 : Int32) (x3 : Int32) (y0 : Int32) (I : Mem) : Option Mem :=
  (if x2 = 0 then (if ((I a0 3) / (2 : Int32)) ≤ y0 then j_X3_takeFold_70 a0 x2 x3 y0 ((I a0 3) / (2 : Int32)) x3 (0 : Int32) I else j_X3_takeFold_70 a0 x2 x3 y0 ((I a0 3) / (2 : Int32)) x3 (1 : Int32) I) else (if ((I a0 2) / (2 : Int32)) ≤ y0 then j_X3_takeFold_70 a0 x2 x3 y0 ((I a0 2) / (2 : Int32)) x3 (0 : Int32) I else j_X3_takeFold_70 a0 x2 x3 y0 ((I a0 2) / (2 : Int32)) x3 (1 : Int32) I))
def f_X3_takeFold (a0 : Nat) (x1 : Int32) (I : Mem) : Option Mem :=
  bI (f_X5_isAcross x1 I) fun r2 I1 => (if x1 = (1 : Int32) then (if r2 = 0 then j_X3_takeFold_36 a0 r2 (1 : Int32) (I1 a0 1) I1 else j_X3_takeFold_36 a0 r2 (1 : Int32) (I1 a0 0) I1) else (if x1 = (3 : Int32) then (if r2 = 0 then j_X3_takeFold_36 a0 r2 (1 : Int32) (I1 a0 1) I1 else j_X3_takeFold_36 a0 r2 (1 : Int32) (I1 a0 0) I1) else (if r2 = 0 then j_X3_takeFold_36 a0 r2 (0 : Int32) (I1 a0 1) I1 else j_X3_takeFold_36 a0 r2 (0 : Int32) (I1 a0 0) I1)))
set_option maxRecDepth 100000 in
theorem tj_X3_takeFold_132 {G : Gt} (hG : Gok G) (hn : Gn G) (a0 : Nat) (x2 : Int32) (x3 : Int32) (x4 : Int32) (x5 : Int32) (o0 : ok G a0 3) (I : Mem) : J G (mu_X3_takeFold G) 132 [some (.ref a0), none, some (.int x2), some (.int x3), some (.int x4), some (.int x5)] [] I (j_X3_takeFold_132 a0 x2 x3 x4 x5 I) := by
  unfold j_X3_takeFold_132
  refine J_aload_n (pc := 132) (x := a0) dX3_takeFold_132 rfl ?_
  refine J_dupR (pc := 133) dX3_takeFold_133 ?_
  refine J_get (pc := 134) (t := 3) (k := 4) (.int (I a0 4)) o0 (by decide) rfl ingX3 (by decide) wd_113 rfl dX3_takeFold_134 ?_
  refine J_iconst (pc := 137) (v := (2 : Int32)) dX3_takeFold_137 (by decide) ?_
  refine J_imul (pc := 138) dX3_takeFold_138 ?_
  refine J_put (pc := 139) (t := 3) (k := 4) o0 (by decide) rfl ingX3 tyX3 tyX3_ok nmX3 (by decide) wd_113 rfl pfI (Nat.le_of_ble_eq_true rfl) rfl dX3_takeFold_139 ?_
  refine J_aload_n (pc := 142) (x := a0) dX3_takeFold_142 rfl ?_
  refine J_iload_n (pc := 143) (x := x3) dX3_takeFold_143 rfl ?_
  refine J_if_eq (pc := 144) (tgt := 155) dX3_takeFold_144 (by decide) ?_ ?_
  · refine J_iload (pc := 155) (x := x4) dX3_takeFold_155 rfl ?_
    refine J_iload (pc := 157) (x := x5) dX3_takeFold_157 rfl ?_
    refine J_iload_n (pc := 159) (x := x2) dX3_takeFold_159 rfl ?_
    refine J_callVv (pc := 160) (t := 3) (as := [.int x4, .int x5, .int x2]) (st := []) (c_X3_stayAt hG hn a0 x4 x5 x2 o0 (stm I a0 4 ((I a0 4) * (2 : Int32)))) o0 (by decide) rfl (cw_RX3_42 rfl) wd_124 wd_123 rfl ⟨Nat.le_of_ble_eq_true rfl, Nat.le_of_ble_eq_true rfl, Nat.le_of_ble_eq_true rfl, Nat.le_of_ble_eq_true rfl⟩ (Nat.le_of_ble_eq_true rfl) rfl dX3_takeFold_160 (fun I3 => ?_)
    exact J_vret (pc := 163) dX3_takeFold_163
  · refine J_iload (pc := 147) (x := x4) dX3_takeFold_147 rfl ?_
    refine J_iload (pc := 149) (x := x5) dX3_takeFold_149 rfl ?_
    refine J_isub (pc := 151) dX3_takeFold_151 ?_
    refine J_goto (pc := 152) (tgt := 157) dX3_takeFold_152 (by decide) ?_
    refine J_iload (pc := 157) (x := x5) dX3_takeFold_157 rfl ?_
    refine J_iload_n (pc := 159) (x := x2) dX3_takeFold_159 rfl ?_
    refine J_callVv (pc := 160) (t := 3) (as := [.int (x4 - x5), .int x5, .int x2]) (st := []) (c_X3_stayAt hG hn a0 (x4 - x5) x5 x2 o0 (stm I a0 4 ((I a0 4) * (2 : Int32)))) o0 (by decide) rfl (cw_RX3_42 rfl) wd_124 wd_123 rfl ⟨Nat.le_of_ble_eq_true rfl, Nat.le_of_ble_eq_true rfl, Nat.le_of_ble_eq_true rfl, Nat.le_of_ble_eq_true rfl⟩ (Nat.le_of_ble_eq_true rfl) rfl dX3_takeFold_160 (fun I4 => ?_)
    exact J_vret (pc := 163) dX3_takeFold_163
set_option maxRecDepth 100000 in
theorem tj_X3_takeFold_70 {G : Gt} (hG : Gok G) (hn : Gn G) (a0 : Nat) (x2 : Int32) (x3 : Int32) (x4 : Int32) (x5 : Int32) (y0 : Int32) (y1 : Int32) (o0 : ok G a0 3) (I : Mem) : J G (mu_X3_takeFold G) 70 [some (.ref a0), none, some (.int x2), some (.int x3), some (.int x4), some (.int x5)] [.int y1, .int y0] I (j_X3_takeFold_70 a0 x2 x3 x4 x5 y0 y1 I) := by
  unfold j_X3_takeFold_70
  refine J_icmp_ne (pc := 70) (tgt := 132) dX3_takeFold_70 (by decide) ?_ ?_
  · refine J_iconst (pc := 73) (v := (2 : Int32)) dX3_takeFold_73 (by decide) ?_
    refine J_iload (pc := 74) (x := x5) dX3_takeFold_74 rfl ?_
    refine J_imul (pc := 76) dX3_takeFold_76 ?_
    refine J_iconst (pc := 77) (v := (1 : Int32)) dX3_takeFold_77 (by decide) ?_
    refine J_isub (pc := 78) dX3_takeFold_78 ?_
    refine J_iload (pc := 79) (x := x4) dX3_takeFold_79 rfl ?_
    refine J_isub (pc := 81) dX3_takeFold_81 ?_
    refine J_istore (pc := 82) (ls' := [some (.ref a0), none, some (.int x2), some (.int x3), some (.int ((((2 : Int32) * x5) - (1 : Int32)) - x4)), some (.int x5)]) dX3_takeFold_82 (Nat.le_of_ble_eq_true rfl) rfl rfl ?_
    refine J_aload_n (pc := 84) (x := a0) dX3_takeFold_84 rfl ?_
    refine J_iconst (pc := 85) (v := (2 : Int32)) dX3_takeFold_85 (by decide) ?_
    refine J_aload_n (pc := 86) (x := a0) dX3_takeFold_86 rfl ?_
    refine J_get (pc := 87) (t := 3) (k := 4) (.int (I a0 4)) o0 (by decide) rfl ingX3 (by decide) wd_113 rfl dX3_takeFold_87 ?_
    refine J_imul (pc := 90) dX3_takeFold_90 ?_
    refine J_iconst (pc := 91) (v := (1 : Int32)) dX3_takeFold_91 (by decide) ?_
    refine J_isub (pc := 92) dX3_takeFold_92 ?_
    refine J_aload_n (pc := 93) (x := a0) dX3_takeFold_93 rfl ?_
    refine J_get (pc := 94) (t := 3) (k := 5) (.int (I a0 5)) o0 (by decide) rfl ingX3 (by decide) wd_114 rfl dX3_takeFold_94 ?_
    refine J_isub (pc := 97) dX3_takeFold_97 ?_
    refine J_put (pc := 98) (t := 3) (k := 5) o0 (by decide) rfl ingX3 tyX3 tyX3_ok nmX3 (by decide) wd_114 rfl pfI (Nat.le_of_ble_eq_true rfl) rfl dX3_takeFold_98 ?_
    refine J_aload_n (pc := 101) (x := a0) dX3_takeFold_101 rfl ?_
    refine J_iconst (pc := 102) (v := (1 : Int32)) dX3_takeFold_102 (by decide) ?_
    refine J_aload_n (pc := 103) (x := a0) dX3_takeFold_103 rfl ?_
    refine J_get (pc := 104) (t := 3) (k := 6) (.int ((stm I a0 5 ((((2 : Int32) * (I a0 4)) - (1 : Int32)) - (I a0 5))) a0 6)) o0 (by decide) rfl ingX3 (by decide) wd_115 rfl dX3_takeFold_104 ?_
    refine J_isub (pc := 107) dX3_takeFold_107 ?_
    refine J_put (pc := 108) (t := 3) (k := 6) o0 (by decide) rfl ingX3 tyX3 tyX3_ok nmX3 (by decide) wd_115 rfl pfI (Nat.le_of_ble_eq_true rfl) rfl dX3_takeFold_108 ?_
    refine J_aload_n (pc := 111) (x := a0) dX3_takeFold_111 rfl ?_
    refine J_iload_n (pc := 112) (x := x2) dX3_takeFold_112 rfl ?_
    refine J_if_eq (pc := 113) (tgt := 123) dX3_takeFold_113 (by decide) ?_ ?_
    · refine J_iconst (pc := 123) (v := (1 : Int32)) dX3_takeFold_123 (by decide) ?_
      refine J_aload_n (pc := 124) (x := a0) dX3_takeFold_124 rfl ?_
      refine J_get (pc := 125) (t := 3) (k := 7) (.int ((stm (stm I a0 5 ((((2 : Int32) * (I a0 4)) - (1 : Int32)) - (I a0 5))) a0 6 ((1 : Int32) - ((stm I a0 5 ((((2 : Int32) * (I a0 4)) - (1 : Int32)) - (I a0 5))) a0 6))) a0 7)) o0 (by decide) rfl ingX3 (by decide) wd_116 rfl dX3_takeFold_125 ?_
      refine J_isub (pc := 128) dX3_takeFold_128 ?_
      refine J_put (pc := 129) (t := 3) (k := 7) o0 (by decide) rfl ingX3 tyX3 tyX3_ok nmX3 (by decide) wd_116 rfl pfI (Nat.le_of_ble_eq_true rfl) rfl dX3_takeFold_129 ?_
      exact tj_X3_takeFold_132 hG hn a0 x2 x3 ((((2 : Int32) * x5) - (1 : Int32)) - x4) x5 o0 (stm (stm (stm I a0 5 ((((2 : Int32) * (I a0 4)) - (1 : Int32)) - (I a0 5))) a0 6 ((1 : Int32) - ((stm I a0 5 ((((2 : Int32) * (I a0 4)) - (1 : Int32)) - (I a0 5))) a0 6))) a0 7 ((1 : Int32) - ((stm (stm I a0 5 ((((2 : Int32) * (I a0 4)) - (1 : Int32)) - (I a0 5))) a0 6 ((1 : Int32) - ((stm I a0 5 ((((2 : Int32) * (I a0 4)) - (1 : Int32)) - (I a0 5))) a0 6))) a0 7)))
    · refine J_aload_n (pc := 116) (x := a0) dX3_takeFold_116 rfl ?_
      refine J_get (pc := 117) (t := 3) (k := 7) (.int ((stm (stm I a0 5 ((((2 : Int32) * (I a0 4)) - (1 : Int32)) - (I a0 5))) a0 6 ((1 : Int32) - ((stm I a0 5 ((((2 : Int32) * (I a0 4)) - (1 : Int32)) - (I a0 5))) a0 6))) a0 7)) o0 (by decide) rfl ingX3 (by decide) wd_116 rfl dX3_takeFold_117 ?_
      refine J_goto (pc := 120) (tgt := 129) dX3_takeFold_120 (by decide) ?_
      refine J_put (pc := 129) (t := 3) (k := 7) o0 (by decide) rfl ingX3 tyX3 tyX3_ok nmX3 (by decide) wd_116 rfl pfI (Nat.le_of_ble_eq_true rfl) rfl dX3_takeFold_129 ?_
      exact tj_X3_takeFold_132 hG hn a0 x2 x3 ((((2 : Int32) * x5) - (1 : Int32)) - x4) x5 o0 (stm (stm (stm I a0 5 ((((2 : Int32) * (I a0 4)) - (1 : Int32)) - (I a0 5))) a0 6 ((1 : Int32) - ((stm I a0 5 ((((2 : Int32) * (I a0 4)) - (1 : Int32)) - (I a0 5))) a0 6))) a0 7 ((stm (stm I a0 5 ((((2 : Int32) * (I a0 4)) - (1 : Int32)) - (I a0 5))) a0 6 ((1 : Int32) - ((stm I a0 5 ((((2 : Int32) * (I a0 4)) - (1 : Int32)) - (I a0 5))) a0 6))) a0 7))
  · exact tj_X3_takeFold_132 hG hn a0 x2 x3 x4 x5 o0 I
set_option maxRecDepth 100000 in
theorem tj_X3_takeFold_36 {G : Gt} (hG : Gok G) (hn : Gn G) (a0 : Nat) (x2 : Int32) (x3 : Int32) (y0 : Int32) (o0 : ok G a0 3) (I : Mem) : J G (mu_X3_takeFold G) 36 [some (.ref a0), none, some (.int x2), some (.int x3), none, none] [.int y0] I (j_X3_takeFold_36 a0 x2 x3 y0 I) := by
  unfold j_X3_takeFold_36
  refine J_istore (pc := 36) (ls' := [some (.ref a0), none, some (.int x2), some (.int x3), some (.int y0), none]) dX3_takeFold_36 (Nat.le_of_ble_eq_true rfl) rfl rfl ?_
  refine J_iload_n (pc := 38) (x := x2) dX3_takeFold_38 rfl ?_
  refine J_if_eq (pc := 39) (tgt := 49) dX3_takeFold_39 (by decide) ?_ ?_
  · refine J_aload_n (pc := 49) (x := a0) dX3_takeFold_49 rfl ?_
    refine J_get (pc := 50) (t := 3) (k := 3) (.int (I a0 3)) o0 (by decide) rfl ingX3 (by decide) wd_112 rfl dX3_takeFold_50 ?_
    refine J_iconst (pc := 53) (v := (2 : Int32)) dX3_takeFold_53 (by decide) ?_
    refine J_idiv (pc := 54) dX3_takeFold_54 (by decide) ?_
    refine J_istore (pc := 55) (ls' := [some (.ref a0), none, some (.int x2), some (.int x3), some (.int y0), some (.int ((I a0 3) / (2 : Int32)))]) dX3_takeFold_55 (Nat.le_of_ble_eq_true rfl) rfl rfl ?_
    refine J_iload_n (pc := 57) (x := x3) dX3_takeFold_57 rfl ?_
    refine J_iload (pc := 58) (x := y0) dX3_takeFold_58 rfl ?_
    refine J_iload (pc := 60) (x := ((I a0 3) / (2 : Int32))) dX3_takeFold_60 rfl ?_
    refine J_icmp_ge (pc := 62) (tgt := 69) dX3_takeFold_62 (by decide) ?_ ?_
    · refine J_iconst (pc := 69) (v := (0 : Int32)) dX3_takeFold_69 (by decide) ?_
      exact tj_X3_takeFold_70 hG hn a0 x2 x3 y0 ((I a0 3) / (2 : Int32)) x3 (0 : Int32) o0 I
    · refine J_iconst (pc := 65) (v := (1 : Int32)) dX3_takeFold_65 (by decide) ?_
      refine J_goto (pc := 66) (tgt := 70) dX3_takeFold_66 (by decide) ?_
      exact tj_X3_takeFold_70 hG hn a0 x2 x3 y0 ((I a0 3) / (2 : Int32)) x3 (1 : Int32) o0 I
  · refine J_aload_n (pc := 42) (x := a0) dX3_takeFold_42 rfl ?_
    refine J_get (pc := 43) (t := 3) (k := 2) (.int (I a0 2)) o0 (by decide) rfl ingX3 (by decide) wd_111 rfl dX3_takeFold_43 ?_
    refine J_goto (pc := 46) (tgt := 53) dX3_takeFold_46 (by decide) ?_
    refine J_iconst (pc := 53) (v := (2 : Int32)) dX3_takeFold_53 (by decide) ?_
    refine J_idiv (pc := 54) dX3_takeFold_54 (by decide) ?_
    refine J_istore (pc := 55) (ls' := [some (.ref a0), none, some (.int x2), some (.int x3), some (.int y0), some (.int ((I a0 2) / (2 : Int32)))]) dX3_takeFold_55 (Nat.le_of_ble_eq_true rfl) rfl rfl ?_
    refine J_iload_n (pc := 57) (x := x3) dX3_takeFold_57 rfl ?_
    refine J_iload (pc := 58) (x := y0) dX3_takeFold_58 rfl ?_
    refine J_iload (pc := 60) (x := ((I a0 2) / (2 : Int32))) dX3_takeFold_60 rfl ?_
    refine J_icmp_ge (pc := 62) (tgt := 69) dX3_takeFold_62 (by decide) ?_ ?_
    · refine J_iconst (pc := 69) (v := (0 : Int32)) dX3_takeFold_69 (by decide) ?_
      exact tj_X3_takeFold_70 hG hn a0 x2 x3 y0 ((I a0 2) / (2 : Int32)) x3 (0 : Int32) o0 I
    · refine J_iconst (pc := 65) (v := (1 : Int32)) dX3_takeFold_65 (by decide) ?_
      refine J_goto (pc := 66) (tgt := 70) dX3_takeFold_66 (by decide) ?_
      exact tj_X3_takeFold_70 hG hn a0 x2 x3 y0 ((I a0 2) / (2 : Int32)) x3 (1 : Int32) o0 I
set_option maxRecDepth 100000 in
theorem c_X3_takeFold {G : Gt} (hG : Gok G) (hn : Gn G) (a0 : Nat) (x1 : Int32) (o0 : ok G a0 3) (I : Mem) : Ctv G yX3_takeFold cX3_takeFold 6 1 23 [.ref a0, .int x1] I (f_X3_takeFold a0 x1 I) := by
  refine Ctv.of (ls := [some (.ref a0), some (.int x1), none, none, none, none]) 4 hG (by decide) rfl (Nat.le_of_ble_eq_true rfl) ?_
  unfold f_X3_takeFold
  refine J_iload_n (pc := 0) (x := x1) dX3_takeFold_0 rfl ?_
  refine J_callSi (pc := 1) (as := [.int x1]) (st := []) (c_X5_isAcross hG hn x1 I) (cw_RX3_36 rfl) wd_25 rfl ⟨Nat.le_of_ble_eq_true rfl, Nat.le_of_ble_eq_true rfl, Nat.le_of_ble_eq_true rfl, Nat.le_of_ble_eq_true rfl⟩ (Nat.le_of_ble_eq_true rfl) rfl dX3_takeFold_1 (fun r2 I1 => ?_)
  refine J_istore_n (pc := 4) (ls' := [some (.ref a0), some (.int x1), some (.int r2), none, none, none]) dX3_takeFold_4 (Nat.le_of_ble_eq_true rfl) rfl rfl ?_
  refine J_iload_n (pc := 5) (x := x1) dX3_takeFold_5 rfl ?_
  refine J_iconst (pc := 6) (v := (1 : Int32)) dX3_takeFold_6 (by decide) ?_
  refine J_icmp_eq (pc := 7) (tgt := 15) dX3_takeFold_7 (by decide) ?_ ?_
  · refine J_iconst (pc := 15) (v := (1 : Int32)) dX3_takeFold_15 (by decide) ?_
    refine J_goto (pc := 16) (tgt := 20) dX3_takeFold_16 (by decide) ?_
    refine J_istore_n (pc := 20) (ls' := [some (.ref a0), some (.int x1), some (.int r2), some (.int (1 : Int32)), none, none]) dX3_takeFold_20 (Nat.le_of_ble_eq_true rfl) rfl rfl ?_
    refine J_iload_n (pc := 21) (x := r2) dX3_takeFold_21 rfl ?_
    refine J_if_eq (pc := 22) (tgt := 32) dX3_takeFold_22 (by decide) ?_ ?_
    · refine J_aload_n (pc := 32) (x := a0) dX3_takeFold_32 rfl ?_
      refine J_get (pc := 33) (t := 3) (k := 1) (.int (I1 a0 1)) o0 (by decide) rfl ingX3 (by decide) wd_110 rfl dX3_takeFold_33 ?_
      refine J_weak (ls' := [some (.ref a0), none, some (.int r2), some (.int (1 : Int32)), none, none]) ⟨rfl, rfl, rfl, trivial⟩ ?_
      exact tj_X3_takeFold_36 hG hn a0 r2 (1 : Int32) (I1 a0 1) o0 I1
    · refine J_aload_n (pc := 25) (x := a0) dX3_takeFold_25 rfl ?_
      refine J_get (pc := 26) (t := 3) (k := 0) (.int (I1 a0 0)) o0 (by decide) rfl ingX3 (by decide) wd_109 rfl dX3_takeFold_26 ?_
      refine J_goto (pc := 29) (tgt := 36) dX3_takeFold_29 (by decide) ?_
      refine J_weak (ls' := [some (.ref a0), none, some (.int r2), some (.int (1 : Int32)), none, none]) ⟨rfl, rfl, rfl, trivial⟩ ?_
      exact tj_X3_takeFold_36 hG hn a0 r2 (1 : Int32) (I1 a0 0) o0 I1
  · refine J_iload_n (pc := 10) (x := x1) dX3_takeFold_10 rfl ?_
    refine J_iconst (pc := 11) (v := (3 : Int32)) dX3_takeFold_11 (by decide) ?_
    refine J_icmp_ne (pc := 12) (tgt := 19) dX3_takeFold_12 (by decide) ?_ ?_
    · refine J_iconst (pc := 15) (v := (1 : Int32)) dX3_takeFold_15 (by decide) ?_
      refine J_goto (pc := 16) (tgt := 20) dX3_takeFold_16 (by decide) ?_
      refine J_istore_n (pc := 20) (ls' := [some (.ref a0), some (.int x1), some (.int r2), some (.int (1 : Int32)), none, none]) dX3_takeFold_20 (Nat.le_of_ble_eq_true rfl) rfl rfl ?_
      refine J_iload_n (pc := 21) (x := r2) dX3_takeFold_21 rfl ?_
      refine J_if_eq (pc := 22) (tgt := 32) dX3_takeFold_22 (by decide) ?_ ?_
      · refine J_aload_n (pc := 32) (x := a0) dX3_takeFold_32 rfl ?_
        refine J_get (pc := 33) (t := 3) (k := 1) (.int (I1 a0 1)) o0 (by decide) rfl ingX3 (by decide) wd_110 rfl dX3_takeFold_33 ?_
        refine J_weak (ls' := [some (.ref a0), none, some (.int r2), some (.int (1 : Int32)), none, none]) ⟨rfl, rfl, rfl, trivial⟩ ?_
        exact tj_X3_takeFold_36 hG hn a0 r2 (1 : Int32) (I1 a0 1) o0 I1
      · refine J_aload_n (pc := 25) (x := a0) dX3_takeFold_25 rfl ?_
        refine J_get (pc := 26) (t := 3) (k := 0) (.int (I1 a0 0)) o0 (by decide) rfl ingX3 (by decide) wd_109 rfl dX3_takeFold_26 ?_
        refine J_goto (pc := 29) (tgt := 36) dX3_takeFold_29 (by decide) ?_
        refine J_weak (ls' := [some (.ref a0), none, some (.int r2), some (.int (1 : Int32)), none, none]) ⟨rfl, rfl, rfl, trivial⟩ ?_
        exact tj_X3_takeFold_36 hG hn a0 r2 (1 : Int32) (I1 a0 0) o0 I1
    · refine J_iconst (pc := 19) (v := (0 : Int32)) dX3_takeFold_19 (by decide) ?_
      refine J_istore_n (pc := 20) (ls' := [some (.ref a0), some (.int x1), some (.int r2), some (.int (0 : Int32)), none, none]) dX3_takeFold_20 (Nat.le_of_ble_eq_true rfl) rfl rfl ?_
      refine J_iload_n (pc := 21) (x := r2) dX3_takeFold_21 rfl ?_
      refine J_if_eq (pc := 22) (tgt := 32) dX3_takeFold_22 (by decide) ?_ ?_
      · refine J_aload_n (pc := 32) (x := a0) dX3_takeFold_32 rfl ?_
        refine J_get (pc := 33) (t := 3) (k := 1) (.int (I1 a0 1)) o0 (by decide) rfl ingX3 (by decide) wd_110 rfl dX3_takeFold_33 ?_
        refine J_weak (ls' := [some (.ref a0), none, some (.int r2), some (.int (0 : Int32)), none, none]) ⟨rfl, rfl, rfl, trivial⟩ ?_
        exact tj_X3_takeFold_36 hG hn a0 r2 (0 : Int32) (I1 a0 1) o0 I1
      · refine J_aload_n (pc := 25) (x := a0) dX3_takeFold_25 rfl ?_
        refine J_get (pc := 26) (t := 3) (k := 0) (.int (I1 a0 0)) o0 (by decide) rfl ingX3 (by decide) wd_109 rfl dX3_takeFold_26 ?_
        refine J_goto (pc := 29) (tgt := 36) dX3_takeFold_29 (by decide) ?_
        refine J_weak (ls' := [some (.ref a0), none, some (.int r2), some (.int (0 : Int32)), none, none]) ⟨rfl, rfl, rfl, trivial⟩ ?_
        exact tj_X3_takeFold_36 hG hn a0 r2 (0 : Int32) (I1 a0 0) o0 I1
abbrev mu_X3_turnPile (G : Gt) : Mt Mem := mv G cX3_turnPile 1 yX3_turnPile.cls 0 0
def f_X3_turnPile (a0 : Nat) (I : Mem) : Option Mem :=
  some (stm (stm I a0 5 (((I a0 4) - (1 : Int32)) - (I a0 5))) a0 6 ((1 : Int32) - ((stm I a0 5 (((I a0 4) - (1 : Int32)) - (I a0 5))) a0 6)))
set_option maxRecDepth 100000 in
theorem c_X3_turnPile {G : Gt} (hG : Gok G) (hn : Gn G) (a0 : Nat) (o0 : ok G a0 3) (I : Mem) : Ctv G yX3_turnPile cX3_turnPile 1 0 0 [.ref a0] I (f_X3_turnPile a0 I) := by
  refine Ctv.of (ls := [some (.ref a0)]) 0 hG (by decide) rfl (Nat.le_of_ble_eq_true rfl) ?_
  unfold f_X3_turnPile
  refine J_aload_n (pc := 0) (x := a0) dX3_turnPile_0 rfl ?_
  refine J_aload_n (pc := 1) (x := a0) dX3_turnPile_1 rfl ?_
  refine J_get (pc := 2) (t := 3) (k := 4) (.int (I a0 4)) o0 (by decide) rfl ingX3 (by decide) wd_113 rfl dX3_turnPile_2 ?_
  refine J_iconst (pc := 5) (v := (1 : Int32)) dX3_turnPile_5 (by decide) ?_
  refine J_isub (pc := 6) dX3_turnPile_6 ?_
  refine J_aload_n (pc := 7) (x := a0) dX3_turnPile_7 rfl ?_
  refine J_get (pc := 8) (t := 3) (k := 5) (.int (I a0 5)) o0 (by decide) rfl ingX3 (by decide) wd_114 rfl dX3_turnPile_8 ?_
  refine J_isub (pc := 11) dX3_turnPile_11 ?_
  refine J_put (pc := 12) (t := 3) (k := 5) o0 (by decide) rfl ingX3 tyX3 tyX3_ok nmX3 (by decide) wd_114 rfl pfI (Nat.le_of_ble_eq_true rfl) rfl dX3_turnPile_12 ?_
  refine J_aload_n (pc := 15) (x := a0) dX3_turnPile_15 rfl ?_
  refine J_iconst (pc := 16) (v := (1 : Int32)) dX3_turnPile_16 (by decide) ?_
  refine J_aload_n (pc := 17) (x := a0) dX3_turnPile_17 rfl ?_
  refine J_get (pc := 18) (t := 3) (k := 6) (.int ((stm I a0 5 (((I a0 4) - (1 : Int32)) - (I a0 5))) a0 6)) o0 (by decide) rfl ingX3 (by decide) wd_115 rfl dX3_turnPile_18 ?_
  refine J_isub (pc := 21) dX3_turnPile_21 ?_
  refine J_put (pc := 22) (t := 3) (k := 6) o0 (by decide) rfl ingX3 tyX3 tyX3_ok nmX3 (by decide) wd_115 rfl pfI (Nat.le_of_ble_eq_true rfl) rfl dX3_turnPile_22 ?_
  exact J_vret (pc := 25) dX3_turnPile_25
abbrev mu_X5_foldLeaf (G : Gt) : Mt Mem := mv G cX5_foldLeaf 4 yX5_foldLeaf.cls 2 48
def b_X5_foldLeaf_2 (K26 : Nat → Int32 → Mem → Option Mem) (R : Nat → Int32 → Int32 → Int32 → Mem → Option Mem) (a0 : Nat) (x1 : Int32) (x2 : Int32) (x3 : Int32) (I : Mem) : Option Mem :=
  (if x1 ≤ x3 then K26 a0 x2 I else bI (f_X5_figureAt x1 x2 x3 I) fun r2 I1 => bV (f_X3_takeFold (a0 + 3) r2 I1) fun I3 => R a0 x1 x2 (x3 + (1 : Int32)) I3)
def l_X5_foldLeaf_2 (K26 : Nat → Int32 → Mem → Option Mem) : Nat → Nat → Int32 → Int32 → Int32 → Mem → Option Mem := fx (b_X5_foldLeaf_2 K26) (fun _ _ _ _ _ => none)
def f_X5_foldLeaf (a0 : Nat) (x1 : Int32) (x2 : Int32) (I : Mem) : Option Mem :=
  l_X5_foldLeaf_2 (fun (w4 : Nat) (z5 : Int32) I6 => bI (f_X5_lastFigure z5 I6) fun r8 I7 => (if r8 = (2 : Int32) then bV (f_X3_turnPile (w4 + 3) I7) fun I9 => some I9 else some I7)) fuel a0 x1 x2 (0 : Int32) I
set_option maxRecDepth 100000 in
theorem tb_X5_foldLeaf_2 {G : Gt} (hG : Gok G) (hn : Gn G) {K26 : Nat → Int32 → Mem → Option Mem} (hK26 : ∀ (a0 : Nat) (x2 : Int32) (o0 : ok G a0 5) (I : Mem), J G (mu_X5_foldLeaf G) 26 [some (.ref a0), none, some (.int x2), none] [] I (K26 a0 x2 I)) {R : Nat → Int32 → Int32 → Int32 → Mem → Option Mem} (hR : ∀ (a0 : Nat) (x1 : Int32) (x2 : Int32) (x3 : Int32) (o0 : ok G a0 5) (I : Mem), J G (mu_X5_foldLeaf G) 2 [some (.ref a0), some (.int x1), some (.int x2), some (.int x3)] [] I (R a0 x1 x2 x3 I)) (a0 : Nat) (x1 : Int32) (x2 : Int32) (x3 : Int32) (o0 : ok G a0 5) (I : Mem) : J G (mu_X5_foldLeaf G) 2 [some (.ref a0), some (.int x1), some (.int x2), some (.int x3)] [] I (b_X5_foldLeaf_2 K26 R a0 x1 x2 x3 I) := by
  unfold b_X5_foldLeaf_2
  refine J_iload_n (pc := 2) (x := x3) dX5_foldLeaf_2 rfl ?_
  refine J_iload_n (pc := 3) (x := x1) dX5_foldLeaf_3 rfl ?_
  refine J_icmp_ge (pc := 4) (tgt := 26) dX5_foldLeaf_4 (by decide) ?_ ?_
  · refine J_weak (ls' := [some (.ref a0), none, some (.int x2), none]) ⟨rfl, rfl, trivial⟩ ?_
    exact hK26 a0 x2 o0 I
  · refine J_aload_n (pc := 7) (x := a0) dX5_foldLeaf_7 rfl ?_
    refine J_get (pc := 8) (t := 5) (k := 5) (.ref (a0 + 3)) o0 (by decide) rfl ingX5 (by decide) wd_100 rfl dX5_foldLeaf_8 ?_
    refine J_iload_n (pc := 11) (x := x1) dX5_foldLeaf_11 rfl ?_
    refine J_iload_n (pc := 12) (x := x2) dX5_foldLeaf_12 rfl ?_
    refine J_iload_n (pc := 13) (x := x3) dX5_foldLeaf_13 rfl ?_
    refine J_callSi (pc := 14) (as := [.int x1, .int x2, .int x3]) (st := [.ref (a0 + 3)]) (c_X5_figureAt hG hn x1 x2 x3 I) (cw_RX5_35 rfl) wd_86 rfl ⟨Nat.le_of_ble_eq_true rfl, Nat.le_of_ble_eq_true rfl, Nat.le_of_ble_eq_true rfl, Nat.le_of_ble_eq_true rfl⟩ (Nat.le_of_ble_eq_true rfl) rfl dX5_foldLeaf_14 (fun r2 I1 => ?_)
    refine J_callVv (pc := 17) (t := 3) (as := [.int r2]) (st := []) (c_X3_takeFold hG hn (a0 + 3) r2 (okf_5_3 hn o0) I1) (okf_5_3 hn o0) (by decide) rfl (cw_RX5_68 rfl) wd_128 wd_127 rfl ⟨Nat.le_of_ble_eq_true rfl, Nat.le_of_ble_eq_true rfl, Nat.le_of_ble_eq_true rfl, Nat.le_of_ble_eq_true rfl⟩ (Nat.le_of_ble_eq_true rfl) rfl dX5_foldLeaf_17 (fun I3 => ?_)
    refine J_iinc (pc := 20) (d := (1 : Int32)) (ls' := [some (.ref a0), some (.int x1), some (.int x2), some (.int (x3 + (1 : Int32)))]) dX5_foldLeaf_20 (by decide) rfl (Nat.le_of_ble_eq_true rfl) rfl rfl ?_
    refine J_goto (pc := 23) (tgt := 2) dX5_foldLeaf_23 (by decide) ?_
    exact hR a0 x1 x2 (x3 + (1 : Int32)) o0 I3
theorem tl_X5_foldLeaf_2 {G : Gt} (hG : Gok G) (hn : Gn G) {K26 : Nat → Int32 → Mem → Option Mem} (hK26 : ∀ (a0 : Nat) (x2 : Int32) (o0 : ok G a0 5) (I : Mem), J G (mu_X5_foldLeaf G) 26 [some (.ref a0), none, some (.int x2), none] [] I (K26 a0 x2 I)) (n : Nat) : ∀ (a0 : Nat) (x1 : Int32) (x2 : Int32) (x3 : Int32) (o0 : ok G a0 5) (I : Mem), J G (mu_X5_foldLeaf G) 2 [some (.ref a0), some (.int x1), some (.int x2), some (.int x3)] [] I (l_X5_foldLeaf_2 K26 n a0 x1 x2 x3 I) := by
  induction n with
  | zero => intro a0 x1 x2 x3 o0 I; exact J_none
  | succ n ih => intro a0 x1 x2 x3 o0 I; exact tb_X5_foldLeaf_2 hG hn hK26 ih a0 x1 x2 x3 o0 I
set_option maxRecDepth 100000 in
theorem c_X5_foldLeaf {G : Gt} (hG : Gok G) (hn : Gn G) (a0 : Nat) (x1 : Int32) (x2 : Int32) (o0 : ok G a0 5) (I : Mem) : Ctv G yX5_foldLeaf cX5_foldLeaf 4 2 48 [.ref a0, .int x1, .int x2] I (f_X5_foldLeaf a0 x1 x2 I) := by
  refine Ctv.of (ls := [some (.ref a0), some (.int x1), some (.int x2), none]) 1 hG (by decide) rfl (Nat.le_of_ble_eq_true rfl) ?_
  unfold f_X5_foldLeaf
  refine J_iconst (pc := 0) (v := (0 : Int32)) dX5_foldLeaf_0 (by decide) ?_
  refine J_istore_n (pc := 1) (ls' := [some (.ref a0), some (.int x1), some (.int x2), some (.int (0 : Int32))]) dX5_foldLeaf_1 (Nat.le_of_ble_eq_true rfl) rfl rfl ?_
  refine tl_X5_foldLeaf_2 hG hn (fun w4 z5 ow4 I6 => ?_) fuel a0 x1 x2 (0 : Int32) o0 I
  · refine J_iload_n (pc := 26) (x := z5) dX5_foldLeaf_26 rfl ?_
    refine J_callSi (pc := 27) (as := [.int z5]) (st := []) (c_X5_lastFigure hG hn z5 I6) (cw_RX5_72 rfl) wd_21 rfl ⟨Nat.le_of_ble_eq_true rfl, Nat.le_of_ble_eq_true rfl, Nat.le_of_ble_eq_true rfl, Nat.le_of_ble_eq_true rfl⟩ (Nat.le_of_ble_eq_true rfl) rfl dX5_foldLeaf_27 (fun r8 I7 => ?_)
    refine J_iconst (pc := 30) (v := (2 : Int32)) dX5_foldLeaf_30 (by decide) ?_
    refine J_icmp_ne (pc := 31) (tgt := 41) dX5_foldLeaf_31 (by decide) ?_ ?_
    · refine J_aload_n (pc := 34) (x := w4) dX5_foldLeaf_34 rfl ?_
      refine J_get (pc := 35) (t := 5) (k := 5) (.ref (w4 + 3)) ow4 (by decide) rfl ingX5 (by decide) wd_100 rfl dX5_foldLeaf_35 ?_
      refine J_callVv (pc := 38) (t := 3) (as := []) (st := []) (c_X3_turnPile hG hn (w4 + 3) (okf_5_3 hn ow4) I7) (okf_5_3 hn ow4) (by decide) rfl (cw_RX5_75 rfl) wd_133 wd_132 rfl ⟨Nat.le_of_ble_eq_true rfl, Nat.le_of_ble_eq_true rfl, Nat.le_of_ble_eq_true rfl, Nat.le_of_ble_eq_true rfl⟩ (Nat.le_of_ble_eq_true rfl) rfl dX5_foldLeaf_38 (fun I9 => ?_)
      exact J_vret (pc := 41) dX5_foldLeaf_41
    · exact J_vret (pc := 41) dX5_foldLeaf_41
abbrev mu_X3_frontPage (G : Gt) : Mt (Int32 × Mem) := mi G cX3_frontPage 2 yX3_frontPage.cls (some .int) 0 0
def f_X3_frontPage (a0 : Nat) (I : Mem) : Option (Int32 × Mem) :=
  some (((((2 : Int32) * (((I a0 4) - (1 : Int32)) - (I a0 5))) + (1 : Int32)) + (I a0 6)), I)
set_option maxRecDepth 100000 in
theorem c_X3_frontPage {G : Gt} (hG : Gok G) (hn : Gn G) (a0 : Nat) (o0 : ok G a0 3) (I : Mem) : Cti G yX3_frontPage cX3_frontPage 2 (some .int) 0 0 [.ref a0] I (f_X3_frontPage a0 I) := by
  refine Cti.of (ls := [some (.ref a0), none]) 1 hG (by decide) rfl (Nat.le_of_ble_eq_true rfl) ?_
  unfold f_X3_frontPage
  refine J_aload_n (pc := 0) (x := a0) dX3_frontPage_0 rfl ?_
  refine J_get (pc := 1) (t := 3) (k := 4) (.int (I a0 4)) o0 (by decide) rfl ingX3 (by decide) wd_113 rfl dX3_frontPage_1 ?_
  refine J_iconst (pc := 4) (v := (1 : Int32)) dX3_frontPage_4 (by decide) ?_
  refine J_isub (pc := 5) dX3_frontPage_5 ?_
  refine J_aload_n (pc := 6) (x := a0) dX3_frontPage_6 rfl ?_
  refine J_get (pc := 7) (t := 3) (k := 5) (.int (I a0 5)) o0 (by decide) rfl ingX3 (by decide) wd_114 rfl dX3_frontPage_7 ?_
  refine J_isub (pc := 10) dX3_frontPage_10 ?_
  refine J_istore_n (pc := 11) (ls' := [some (.ref a0), some (.int (((I a0 4) - (1 : Int32)) - (I a0 5)))]) dX3_frontPage_11 (Nat.le_of_ble_eq_true rfl) rfl rfl ?_
  refine J_iconst (pc := 12) (v := (2 : Int32)) dX3_frontPage_12 (by decide) ?_
  refine J_iload_n (pc := 13) (x := (((I a0 4) - (1 : Int32)) - (I a0 5))) dX3_frontPage_13 rfl ?_
  refine J_imul (pc := 14) dX3_frontPage_14 ?_
  refine J_iconst (pc := 15) (v := (1 : Int32)) dX3_frontPage_15 (by decide) ?_
  refine J_iadd (pc := 16) dX3_frontPage_16 ?_
  refine J_aload_n (pc := 17) (x := a0) dX3_frontPage_17 rfl ?_
  refine J_get (pc := 18) (t := 3) (k := 6) (.int (I a0 6)) o0 (by decide) rfl ingX3 (by decide) wd_115 rfl dX3_frontPage_18 ?_
  refine J_iadd (pc := 21) dX3_frontPage_21 ?_
  exact J_iret (pc := 22) dX3_frontPage_22
abbrev mu_X5_foldBy (G : Gt) : Mt Mem := mv G cX5_foldBy 4 yX5_foldBy.cls 3 71
def b_X5_foldBy_7 (K40 : Nat → Int32 → Int32 → Mem → Option Mem) (R : Nat → Int32 → Int32 → Int32 → Mem → Option Mem) (a0 : Nat) (x1 : Int32) (x2 : Int32) (x3 : Int32) (I : Mem) : Option Mem :=
  (if x1 ≤ x3 then K40 a0 x1 x2 I else bI (f_X5_figureAt x1 x2 x3 I) fun r2 I1 => bI (f_X5_isAcross r2 I1) fun r4 I3 => (if r4 = 0 then R a0 x1 x2 (x3 + (1 : Int32)) I3 else R a0 x1 x2 (x3 + (1 : Int32)) (stm I3 a0 2 ((I3 a0 2) + (1 : Int32)))))
def l_X5_foldBy_7 (K40 : Nat → Int32 → Int32 → Mem → Option Mem) : Nat → Nat → Int32 → Int32 → Int32 → Mem → Option Mem := fx (b_X5_foldBy_7 K40) (fun _ _ _ _ _ => none)
def b_X5_foldBy_64 (K135 : Mem → Option Mem) (R : Nat → Int32 → Int32 → Int32 → Mem → Option Mem) (a0 : Nat) (x1 : Int32) (x2 : Int32) (x3 : Int32) (I : Mem) : Option Mem :=
  bI (f_X5_leaves a0 I) fun r10 I9 => (if r10 ≤ x3 then K135 I9 else bI (f_X5_columnAt a0 x3 I9) fun r12 I11 => bI (f_X5_rowAt a0 x3 I11) fun r14 I13 => bV (f_X3_lieAt (a0 + 3) r12 r14 (I13 a0 0) (I13 a0 1) I13) fun I15 => bV (f_X5_foldLeaf a0 x1 x2 I15) fun I16 => bI (f_X3_frontPage (a0 + 3) I16) fun r18 I17 => ck (inb x3 16) <| ck (inb x3 16) <| R a0 x1 x2 (x3 + (1 : Int32)) (stm (stm I17 (a0 + 1) (tn x3) r18) (a0 + 2) (tn x3) ((stm I17 (a0 + 1) (tn x3) r18) (a0 + 3) 7)))
def l_X5_foldBy_64 (K135 : Mem → Option Mem) : Nat → Nat → Int32 → Int32 → Int32 → Mem → Option Mem := fx (b_X5_foldBy_64 K135) (fun _ _ _ _ _ => none)
def f_X5_foldBy (a0 : Nat) (x1 : Int32) (x2 : Int32) (I : Mem) : Option Mem :=
  l_X5_foldBy_7 (fun (w5 : Nat) (z6 : Int32) (z7 : Int32) I8 => l_X5_foldBy_64 (fun I21 => some I21) fuel w5 z6 z7 (0 : Int32) (stm (stm I8 w5 0 ((1 : Int32) <<< ((I8 w5 2) &&& 31))) w5 1 ((1 : Int32) <<< ((z6 - ((stm I8 w5 0 ((1 : Int32) <<< ((I8 w5 2) &&& 31))) w5 2)) &&& 31)))) fuel a0 x1 x2 (0 : Int32) (stm I a0 2 (0 : Int32))
set_option maxRecDepth 100000 in
theorem tb_X5_foldBy_7 {G : Gt} (hG : Gok G) (hn : Gn G) {K40 : Nat → Int32 → Int32 → Mem → Option Mem} (hK40 : ∀ (a0 : Nat) (x1 : Int32) (x2 : Int32) (o0 : ok G a0 5) (I : Mem), J G (mu_X5_foldBy G) 40 [some (.ref a0), some (.int x1), some (.int x2), none] [] I (K40 a0 x1 x2 I)) {R : Nat → Int32 → Int32 → Int32 → Mem → Option Mem} (hR : ∀ (a0 : Nat) (x1 : Int32) (x2 : Int32) (x3 : Int32) (o0 : ok G a0 5) (I : Mem), J G (mu_X5_foldBy G) 7 [some (.ref a0), some (.int x1), some (.int x2), some (.int x3)] [] I (R a0 x1 x2 x3 I)) (a0 : Nat) (x1 : Int32) (x2 : Int32) (x3 : Int32) (o0 : ok G a0 5) (I : Mem) : J G (mu_X5_foldBy G) 7 [some (.ref a0), some (.int x1), some (.int x2), some (.int x3)] [] I (b_X5_foldBy_7 K40 R a0 x1 x2 x3 I) := by
  unfold b_X5_foldBy_7
  refine J_iload_n (pc := 7) (x := x3) dX5_foldBy_7 rfl ?_
  refine J_iload_n (pc := 8) (x := x1) dX5_foldBy_8 rfl ?_
  refine J_icmp_ge (pc := 9) (tgt := 40) dX5_foldBy_9 (by decide) ?_ ?_
  · refine J_weak (ls' := [some (.ref a0), some (.int x1), some (.int x2), none]) ⟨rfl, rfl, rfl, trivial⟩ ?_
    exact hK40 a0 x1 x2 o0 I
  · refine J_iload_n (pc := 12) (x := x1) dX5_foldBy_12 rfl ?_
    refine J_iload_n (pc := 13) (x := x2) dX5_foldBy_13 rfl ?_
    refine J_iload_n (pc := 14) (x := x3) dX5_foldBy_14 rfl ?_
    refine J_callSi (pc := 15) (as := [.int x1, .int x2, .int x3]) (st := []) (c_X5_figureAt hG hn x1 x2 x3 I) (cw_RX5_35 rfl) wd_86 rfl ⟨Nat.le_of_ble_eq_true rfl, Nat.le_of_ble_eq_true rfl, Nat.le_of_ble_eq_true rfl, Nat.le_of_ble_eq_true rfl⟩ (Nat.le_of_ble_eq_true rfl) rfl dX5_foldBy_15 (fun r2 I1 => ?_)
    refine J_callSi (pc := 18) (as := [.int r2]) (st := []) (c_X5_isAcross hG hn r2 I1) (cw_RX5_39 rfl) wd_25 rfl ⟨Nat.le_of_ble_eq_true rfl, Nat.le_of_ble_eq_true rfl, Nat.le_of_ble_eq_true rfl, Nat.le_of_ble_eq_true rfl⟩ (Nat.le_of_ble_eq_true rfl) rfl dX5_foldBy_18 (fun r4 I3 => ?_)
    refine J_if_eq (pc := 21) (tgt := 34) dX5_foldBy_21 (by decide) ?_ ?_
    · refine J_iinc (pc := 34) (d := (1 : Int32)) (ls' := [some (.ref a0), some (.int x1), some (.int x2), some (.int (x3 + (1 : Int32)))]) dX5_foldBy_34 (by decide) rfl (Nat.le_of_ble_eq_true rfl) rfl rfl ?_
      refine J_goto (pc := 37) (tgt := 7) dX5_foldBy_37 (by decide) ?_
      exact hR a0 x1 x2 (x3 + (1 : Int32)) o0 I3
    · refine J_aload_n (pc := 24) (x := a0) dX5_foldBy_24 rfl ?_
      refine J_dupR (pc := 25) dX5_foldBy_25 ?_
      refine J_get (pc := 26) (t := 5) (k := 2) (.int (I3 a0 2)) o0 (by decide) rfl ingX5 (by decide) wd_85 rfl dX5_foldBy_26 ?_
      refine J_iconst (pc := 29) (v := (1 : Int32)) dX5_foldBy_29 (by decide) ?_
      refine J_iadd (pc := 30) dX5_foldBy_30 ?_
      refine J_put (pc := 31) (t := 5) (k := 2) o0 (by decide) rfl ingX5 tyX5 tyX5_ok nmX5 (by decide) wd_85 rfl pfI (Nat.le_of_ble_eq_true rfl) rfl dX5_foldBy_31 ?_
      refine J_iinc (pc := 34) (d := (1 : Int32)) (ls' := [some (.ref a0), some (.int x1), some (.int x2), some (.int (x3 + (1 : Int32)))]) dX5_foldBy_34 (by decide) rfl (Nat.le_of_ble_eq_true rfl) rfl rfl ?_
      refine J_goto (pc := 37) (tgt := 7) dX5_foldBy_37 (by decide) ?_
      exact hR a0 x1 x2 (x3 + (1 : Int32)) o0 (stm I3 a0 2 ((I3 a0 2) + (1 : Int32)))
theorem tl_X5_foldBy_7 {G : Gt} (hG : Gok G) (hn : Gn G) {K40 : Nat → Int32 → Int32 → Mem → Option Mem} (hK40 : ∀ (a0 : Nat) (x1 : Int32) (x2 : Int32) (o0 : ok G a0 5) (I : Mem), J G (mu_X5_foldBy G) 40 [some (.ref a0), some (.int x1), some (.int x2), none] [] I (K40 a0 x1 x2 I)) (n : Nat) : ∀ (a0 : Nat) (x1 : Int32) (x2 : Int32) (x3 : Int32) (o0 : ok G a0 5) (I : Mem), J G (mu_X5_foldBy G) 7 [some (.ref a0), some (.int x1), some (.int x2), some (.int x3)] [] I (l_X5_foldBy_7 K40 n a0 x1 x2 x3 I) := by
  induction n with
  | zero => intro a0 x1 x2 x3 o0 I; exact J_none
  | succ n ih => intro a0 x1 x2 x3 o0 I; exact tb_X5_foldBy_7 hG hn hK40 ih a0 x1 x2 x3 o0 I
set_option maxRecDepth 100000 in
theorem tb_X5_foldBy_64 {G : Gt} (hG : Gok G) (hn : Gn G) {K135 : Mem → Option Mem} (hK135 : ∀ (I : Mem), J G (mu_X5_foldBy G) 135 [none, none, none, none] [] I (K135 I)) {R : Nat → Int32 → Int32 → Int32 → Mem → Option Mem} (hR : ∀ (a0 : Nat) (x1 : Int32) (x2 : Int32) (x3 : Int32) (o0 : ok G a0 5) (I : Mem), J G (mu_X5_foldBy G) 64 [some (.ref a0), some (.int x1), some (.int x2), some (.int x3)] [] I (R a0 x1 x2 x3 I)) (a0 : Nat) (x1 : Int32) (x2 : Int32) (x3 : Int32) (o0 : ok G a0 5) (I : Mem) : J G (mu_X5_foldBy G) 64 [some (.ref a0), some (.int x1), some (.int x2), some (.int x3)] [] I (b_X5_foldBy_64 K135 R a0 x1 x2 x3 I) := by
  unfold b_X5_foldBy_64
  refine J_iload_n (pc := 64) (x := x3) dX5_foldBy_64 rfl ?_
  refine J_aload_n (pc := 65) (x := a0) dX5_foldBy_65 rfl ?_
  refine J_callVi (pc := 66) (t := 5) (as := []) (st := [.int x3]) (c_X5_leaves hG hn a0 o0 I) o0 (by decide) rfl (cw_RX5_43 rfl) wd_97 wd_96 rfl ⟨Nat.le_of_ble_eq_true rfl, Nat.le_of_ble_eq_true rfl, Nat.le_of_ble_eq_true rfl, Nat.le_of_ble_eq_true rfl⟩ (Nat.le_of_ble_eq_true rfl) rfl dX5_foldBy_66 (fun r10 I9 => ?_)
  refine J_icmp_ge (pc := 69) (tgt := 135) dX5_foldBy_69 (by decide) ?_ ?_
  · refine J_weak (ls' := [none, none, none, none]) trivial ?_
    exact hK135 I9
  · refine J_aload_n (pc := 72) (x := a0) dX5_foldBy_72 rfl ?_
    refine J_get (pc := 73) (t := 5) (k := 5) (.ref (a0 + 3)) o0 (by decide) rfl ingX5 (by decide) wd_100 rfl dX5_foldBy_73 ?_
    refine J_aload_n (pc := 76) (x := a0) dX5_foldBy_76 rfl ?_
    refine J_iload_n (pc := 77) (x := x3) dX5_foldBy_77 rfl ?_
    refine J_callVi (pc := 78) (t := 5) (as := [.int x3]) (st := [.ref (a0 + 3)]) (c_X5_columnAt hG hn a0 x3 o0 I9) o0 (by decide) rfl (cw_RX5_47 rfl) wd_102 wd_101 rfl ⟨Nat.le_of_ble_eq_true rfl, Nat.le_of_ble_eq_true rfl, Nat.le_of_ble_eq_true rfl, Nat.le_of_ble_eq_true rfl⟩ (Nat.le_of_ble_eq_true rfl) rfl dX5_foldBy_78 (fun r12 I11 => ?_)
    refine J_aload_n (pc := 81) (x := a0) dX5_foldBy_81 rfl ?_
    refine J_iload_n (pc := 82) (x := x3) dX5_foldBy_82 rfl ?_
    refine J_callVi (pc := 83) (t := 5) (as := [.int x3]) (st := [.int r12, .ref (a0 + 3)]) (c_X5_rowAt hG hn a0 x3 o0 I11) o0 (by decide) rfl (cw_RX5_51 rfl) wd_106 wd_105 rfl ⟨Nat.le_of_ble_eq_true rfl, Nat.le_of_ble_eq_true rfl, Nat.le_of_ble_eq_true rfl, Nat.le_of_ble_eq_true rfl⟩ (Nat.le_of_ble_eq_true rfl) rfl dX5_foldBy_83 (fun r14 I13 => ?_)
    refine J_aload_n (pc := 86) (x := a0) dX5_foldBy_86 rfl ?_
    refine J_get (pc := 87) (t := 5) (k := 0) (.int (I13 a0 0)) o0 (by decide) rfl ingX5 (by decide) wd_90 rfl dX5_foldBy_87 ?_
    refine J_aload_n (pc := 90) (x := a0) dX5_foldBy_90 rfl ?_
    refine J_get (pc := 91) (t := 5) (k := 1) (.int (I13 a0 1)) o0 (by decide) rfl ingX5 (by decide) wd_91 rfl dX5_foldBy_91 ?_
    refine J_callVv (pc := 94) (t := 3) (as := [.int r12, .int r14, .int (I13 a0 0), .int (I13 a0 1)]) (st := []) (c_X3_lieAt hG hn (a0 + 3) r12 r14 (I13 a0 0) (I13 a0 1) (okf_5_3 hn o0) I13) (okf_5_3 hn o0) (by decide) rfl (cw_RX5_54 rfl) wd_118 wd_117 rfl ⟨Nat.le_of_ble_eq_true rfl, Nat.le_of_ble_eq_true rfl, Nat.le_of_ble_eq_true rfl, Nat.le_of_ble_eq_true rfl⟩ (Nat.le_of_ble_eq_true rfl) rfl dX5_foldBy_94 (fun I15 => ?_)
    refine J_aload_n (pc := 97) (x := a0) dX5_foldBy_97 rfl ?_
    refine J_iload_n (pc := 98) (x := x1) dX5_foldBy_98 rfl ?_
    refine J_iload_n (pc := 99) (x := x2) dX5_foldBy_99 rfl ?_
    refine J_callVv (pc := 100) (t := 5) (as := [.int x1, .int x2]) (st := []) (c_X5_foldLeaf hG hn a0 x1 x2 o0 I15) o0 (by decide) rfl (cw_RX5_58 rfl) wd_137 wd_136 rfl ⟨Nat.le_of_ble_eq_true rfl, Nat.le_of_ble_eq_true rfl, Nat.le_of_ble_eq_true rfl, Nat.le_of_ble_eq_true rfl⟩ (Nat.le_of_ble_eq_true rfl) rfl dX5_foldBy_100 (fun I16 => ?_)
    refine J_aload_n (pc := 103) (x := a0) dX5_foldBy_103 rfl ?_
    refine J_get (pc := 104) (t := 5) (k := 3) (.ref (a0 + 1)) o0 (by decide) rfl ingX5 (by decide) wd_140 rfl dX5_foldBy_104 ?_
    refine J_iload_n (pc := 107) (x := x3) dX5_foldBy_107 rfl ?_
    refine J_aload_n (pc := 108) (x := a0) dX5_foldBy_108 rfl ?_
    refine J_get (pc := 109) (t := 5) (k := 5) (.ref (a0 + 3)) o0 (by decide) rfl ingX5 (by decide) wd_100 rfl dX5_foldBy_109 ?_
    refine J_callVi (pc := 112) (t := 3) (as := []) (st := [.int x3, .ref (a0 + 1)]) (c_X3_frontPage hG hn (a0 + 3) (okf_5_3 hn o0) I16) (okf_5_3 hn o0) (by decide) rfl (cw_RX5_62 rfl) wd_142 wd_141 rfl ⟨Nat.le_of_ble_eq_true rfl, Nat.le_of_ble_eq_true rfl, Nat.le_of_ble_eq_true rfl, Nat.le_of_ble_eq_true rfl⟩ (Nat.le_of_ble_eq_true rfl) rfl dX5_foldBy_112 (fun r18 I17 => ?_)
    refine J_ck (fun hc19 => ?_)
    refine J_ist (pc := 115) (t := 18) (k := (tn x3)) (okf_5_1 hn o0) iT_18 (inb_in hc19) rfl dX5_foldBy_115 ?_
    refine J_aload_n (pc := 116) (x := a0) dX5_foldBy_116 rfl ?_
    refine J_get (pc := 117) (t := 5) (k := 4) (.ref (a0 + 2)) o0 (by decide) rfl ingX5 (by decide) wd_145 rfl dX5_foldBy_117 ?_
    refine J_iload_n (pc := 120) (x := x3) dX5_foldBy_120 rfl ?_
    refine J_aload_n (pc := 121) (x := a0) dX5_foldBy_121 rfl ?_
    refine J_get (pc := 122) (t := 5) (k := 5) (.ref (a0 + 3)) o0 (by decide) rfl ingX5 (by decide) wd_100 rfl dX5_foldBy_122 ?_
    refine J_get (pc := 125) (t := 3) (k := 7) (.int ((stm I17 (a0 + 1) (tn x3) r18) (a0 + 3) 7)) (okf_5_3 hn o0) (by decide) rfl ingX3 (by decide) wd_146 rfl dX5_foldBy_125 ?_
    refine J_ck (fun hc20 => ?_)
    refine J_ist (pc := 128) (t := 19) (k := (tn x3)) (okf_5_2 hn o0) iT_19 (inb_in hc20) rfl dX5_foldBy_128 ?_
    refine J_iinc (pc := 129) (d := (1 : Int32)) (ls' := [some (.ref a0), some (.int x1), some (.int x2), some (.int (x3 + (1 : Int32)))]) dX5_foldBy_129 (by decide) rfl (Nat.le_of_ble_eq_true rfl) rfl rfl ?_
    refine J_goto (pc := 132) (tgt := 64) dX5_foldBy_132 (by decide) ?_
    exact hR a0 x1 x2 (x3 + (1 : Int32)) o0 (stm (stm I17 (a0 + 1) (tn x3) r18) (a0 + 2) (tn x3) ((stm I17 (a0 + 1) (tn x3) r18) (a0 + 3) 7))
theorem tl_X5_foldBy_64 {G : Gt} (hG : Gok G) (hn : Gn G) {K135 : Mem → Option Mem} (hK135 : ∀ (I : Mem), J G (mu_X5_foldBy G) 135 [none, none, none, none] [] I (K135 I)) (n : Nat) : ∀ (a0 : Nat) (x1 : Int32) (x2 : Int32) (x3 : Int32) (o0 : ok G a0 5) (I : Mem), J G (mu_X5_foldBy G) 64 [some (.ref a0), some (.int x1), some (.int x2), some (.int x3)] [] I (l_X5_foldBy_64 K135 n a0 x1 x2 x3 I) := by
  induction n with
  | zero => intro a0 x1 x2 x3 o0 I; exact J_none
  | succ n ih => intro a0 x1 x2 x3 o0 I; exact tb_X5_foldBy_64 hG hn hK135 ih a0 x1 x2 x3 o0 I
set_option maxRecDepth 100000 in
theorem c_X5_foldBy {G : Gt} (hG : Gok G) (hn : Gn G) (a0 : Nat) (x1 : Int32) (x2 : Int32) (o0 : ok G a0 5) (I : Mem) : Ctv G yX5_foldBy cX5_foldBy 4 3 71 [.ref a0, .int x1, .int x2] I (f_X5_foldBy a0 x1 x2 I) := by
  refine Ctv.of (ls := [some (.ref a0), some (.int x1), some (.int x2), none]) 1 hG (by decide) rfl (Nat.le_of_ble_eq_true rfl) ?_
  unfold f_X5_foldBy
  refine J_aload_n (pc := 0) (x := a0) dX5_foldBy_0 rfl ?_
  refine J_iconst (pc := 1) (v := (0 : Int32)) dX5_foldBy_1 (by decide) ?_
  refine J_put (pc := 2) (t := 5) (k := 2) o0 (by decide) rfl ingX5 tyX5 tyX5_ok nmX5 (by decide) wd_85 rfl pfI (Nat.le_of_ble_eq_true rfl) rfl dX5_foldBy_2 ?_
  refine J_iconst (pc := 5) (v := (0 : Int32)) dX5_foldBy_5 (by decide) ?_
  refine J_istore_n (pc := 6) (ls' := [some (.ref a0), some (.int x1), some (.int x2), some (.int (0 : Int32))]) dX5_foldBy_6 (Nat.le_of_ble_eq_true rfl) rfl rfl ?_
  refine tl_X5_foldBy_7 hG hn (fun w5 z6 z7 ow5 I8 => ?_) fuel a0 x1 x2 (0 : Int32) o0 (stm I a0 2 (0 : Int32))
  · refine J_aload_n (pc := 40) (x := w5) dX5_foldBy_40 rfl ?_
    refine J_iconst (pc := 41) (v := (1 : Int32)) dX5_foldBy_41 (by decide) ?_
    refine J_aload_n (pc := 42) (x := w5) dX5_foldBy_42 rfl ?_
    refine J_get (pc := 43) (t := 5) (k := 2) (.int (I8 w5 2)) ow5 (by decide) rfl ingX5 (by decide) wd_85 rfl dX5_foldBy_43 ?_
    refine J_ishl (pc := 46) dX5_foldBy_46 ?_
    refine J_put (pc := 47) (t := 5) (k := 0) ow5 (by decide) rfl ingX5 tyX5 tyX5_ok nmX5 (by decide) wd_90 rfl pfI (Nat.le_of_ble_eq_true rfl) rfl dX5_foldBy_47 ?_
    refine J_aload_n (pc := 50) (x := w5) dX5_foldBy_50 rfl ?_
    refine J_iconst (pc := 51) (v := (1 : Int32)) dX5_foldBy_51 (by decide) ?_
    refine J_iload_n (pc := 52) (x := z6) dX5_foldBy_52 rfl ?_
    refine J_aload_n (pc := 53) (x := w5) dX5_foldBy_53 rfl ?_
    refine J_get (pc := 54) (t := 5) (k := 2) (.int ((stm I8 w5 0 ((1 : Int32) <<< ((I8 w5 2) &&& 31))) w5 2)) ow5 (by decide) rfl ingX5 (by decide) wd_85 rfl dX5_foldBy_54 ?_
    refine J_isub (pc := 57) dX5_foldBy_57 ?_
    refine J_ishl (pc := 58) dX5_foldBy_58 ?_
    refine J_put (pc := 59) (t := 5) (k := 1) ow5 (by decide) rfl ingX5 tyX5 tyX5_ok nmX5 (by decide) wd_91 rfl pfI (Nat.le_of_ble_eq_true rfl) rfl dX5_foldBy_59 ?_
    refine J_iconst (pc := 62) (v := (0 : Int32)) dX5_foldBy_62 (by decide) ?_
    refine J_istore_n (pc := 63) (ls' := [some (.ref w5), some (.int z6), some (.int z7), some (.int (0 : Int32))]) dX5_foldBy_63 (Nat.le_of_ble_eq_true rfl) rfl rfl ?_
    refine tl_X5_foldBy_64 hG hn (fun I21 => ?_) fuel w5 z6 z7 (0 : Int32) ow5 (stm (stm I8 w5 0 ((1 : Int32) <<< ((I8 w5 2) &&& 31))) w5 1 ((1 : Int32) <<< ((z6 - ((stm I8 w5 0 ((1 : Int32) <<< ((I8 w5 2) &&& 31))) w5 2)) &&& 31)))
    · exact J_vret (pc := 135) dX5_foldBy_135
abbrev mu_X7_unitsOf (G : Gt) : Mt (Int32 × Mem) := mi G cX7_unitsOf 2 yX7_unitsOf.cls (some .int) 0 0
def f_X7_unitsOf (x1 : Int32) (I : Mem) : Option (Int32 × Mem) :=
  ck (inb x1 4) <| some ((((2 : Int32) <<< ((I 5 (tn x1)) &&& 31)) / (4 : Int32)), I)
set_option maxRecDepth 100000 in
theorem c_X7_unitsOf {G : Gt} (hG : Gok G) (hn : Gn G) (x1 : Int32) (I : Mem) : Cti G yX7_unitsOf cX7_unitsOf 2 (some .int) 0 0 [.ref 3, .int x1] I (f_X7_unitsOf x1 I) := by
  refine Cti.of (ls := [some (.ref 3), some (.int x1)]) 0 hG (by decide) rfl (Nat.le_of_ble_eq_true rfl) ?_
  unfold f_X7_unitsOf
  refine J_iconst (pc := 0) (v := (2 : Int32)) dX7_unitsOf_0 (by decide) ?_
  refine J_aload_n (pc := 1) (x := 3) dX7_unitsOf_1 rfl ?_
  refine J_get (pc := 2) (t := 7) (k := 2) (.ref 5) (ok_c hn 3 (by decide) rfl) (by decide) rfl ingX7 (by decide) wd_34 rfl dX7_unitsOf_2 ?_
  refine J_iload_n (pc := 5) (x := x1) dX7_unitsOf_5 rfl ?_
  refine J_ck (fun hc1 => ?_)
  refine J_ild (pc := 6) (t := 12) (k := (tn x1)) (ok_c hn 5 (by decide) rfl) iT_12 (inb_in hc1) rfl dX7_unitsOf_6 ?_
  refine J_ishl (pc := 7) dX7_unitsOf_7 ?_
  refine J_iconst (pc := 8) (v := (4 : Int32)) dX7_unitsOf_8 (by decide) ?_
  refine J_idiv (pc := 9) dX7_unitsOf_9 (by decide) ?_
  exact J_iret (pc := 10) dX7_unitsOf_10
abbrev mu_X4_withOneOf_76_3 (G : Gt) : Mt (Int32 × Mem) := mi G cX4_withOneOf 5 yX4_withOneOf.cls (some .int) 1 21
def f_X4_withOneOf_76_3 (x2 : Int32) (x3 : Int32) (I : Mem) : Option (Int32 × Mem) :=
  bI (f_X7_unitsOf x2 I) fun r2 I1 => (if (x3 - r2) < 0 then some ((-1 : Int32), I1) else ck (inb x2 5) <| ck (inb (x3 - r2) 108) <| (if (I1 (78 + (tn x2)) (tn (x3 - r2))) = (-1 : Int32) then some ((-1 : Int32), I1) else ck (inb x2 5) <| ck (inb (x3 - r2) 108) <| ck (inb x2 4) <| some (((I1 (78 + (tn x2)) (tn (x3 - r2))) + (I1 7 (tn x2))), I1)))
set_option maxRecDepth 100000 in
theorem c_X4_withOneOf_76_3 {G : Gt} (hG : Gok G) (hn : Gn G) (x2 : Int32) (x3 : Int32) (I : Mem) : Cti G yX4_withOneOf cX4_withOneOf 5 (some .int) 1 21 [.ref 76, .ref 3, .int x2, .int x3] I (f_X4_withOneOf_76_3 x2 x3 I) := by
  refine Cti.of (ls := [some (.ref 76), some (.ref 3), some (.int x2), some (.int x3), none]) 1 hG (by decide) rfl (Nat.le_of_ble_eq_true rfl) ?_
  unfold f_X4_withOneOf_76_3
  refine J_iload_n (pc := 0) (x := x3) dX4_withOneOf_0 rfl ?_
  refine J_aload_n (pc := 1) (x := 3) dX4_withOneOf_1 rfl ?_
  refine J_iload_n (pc := 2) (x := x2) dX4_withOneOf_2 rfl ?_
  refine J_callVi (pc := 3) (t := 7) (as := [.int x2]) (st := [.int x3]) (c_X7_unitsOf hG hn x2 I) (ok_c hn 3 (by decide) rfl) (by decide) rfl (cw_RX4_52 rfl) wd_155 wd_154 rfl ⟨Nat.le_of_ble_eq_true rfl, Nat.le_of_ble_eq_true rfl, Nat.le_of_ble_eq_true rfl, Nat.le_of_ble_eq_true rfl⟩ (Nat.le_of_ble_eq_true rfl) rfl dX4_withOneOf_3 (fun r2 I1 => ?_)
  refine J_isub (pc := 6) dX4_withOneOf_6 ?_
  refine J_istore (pc := 7) (ls' := [some (.ref 76), some (.ref 3), some (.int x2), some (.int x3), some (.int (x3 - r2))]) dX4_withOneOf_7 (Nat.le_of_ble_eq_true rfl) rfl rfl ?_
  refine J_iload (pc := 9) (x := (x3 - r2)) dX4_withOneOf_9 rfl ?_
  refine J_if_lt (pc := 11) (tgt := 27) dX4_withOneOf_11 (by decide) ?_ ?_
  · refine J_iconst (pc := 27) (v := (-1 : Int32)) dX4_withOneOf_27 (by decide) ?_
    exact J_iret (pc := 28) dX4_withOneOf_28
  · refine J_aload_n (pc := 14) (x := 76) dX4_withOneOf_14 rfl ?_
    refine J_get (pc := 15) (t := 4) (k := 0) (.ref 77) (ok_c hn 76 (by decide) rfl) (by decide) rfl ingX4 (by decide) wd_152 rfl dX4_withOneOf_15 ?_
    refine J_iload_n (pc := 18) (x := x2) dX4_withOneOf_18 rfl ?_
    refine J_ck (fun hc3 => ?_)
    refine J_lald (pc := 19) (ok_c hn 77 (by decide) rfl) (inb_in hc3) dX4_withOneOf_19 ?_
    refine J_iload (pc := 20) (x := (x3 - r2)) dX4_withOneOf_20 rfl ?_
    refine J_ck (fun hc4 => ?_)
    refine J_ild (pc := 22) (t := 22) (k := (tn (x3 - r2))) (ok_least hn hc3) iT_22 (inb_in hc4) rfl dX4_withOneOf_22 ?_
    refine J_iconst (pc := 23) (v := (-1 : Int32)) dX4_withOneOf_23 (by decide) ?_
    refine J_icmp_ne (pc := 24) (tgt := 29) dX4_withOneOf_24 (by decide) ?_ ?_
    · refine J_iconst (pc := 27) (v := (-1 : Int32)) dX4_withOneOf_27 (by decide) ?_
      exact J_iret (pc := 28) dX4_withOneOf_28
    · refine J_aload_n (pc := 29) (x := 76) dX4_withOneOf_29 rfl ?_
      refine J_get (pc := 30) (t := 4) (k := 0) (.ref 77) (ok_c hn 76 (by decide) rfl) (by decide) rfl ingX4 (by decide) wd_152 rfl dX4_withOneOf_30 ?_
      refine J_iload_n (pc := 33) (x := x2) dX4_withOneOf_33 rfl ?_
      refine J_ck (fun hc5 => ?_)
      refine J_lald (pc := 34) (ok_c hn 77 (by decide) rfl) (inb_in hc5) dX4_withOneOf_34 ?_
      refine J_iload (pc := 35) (x := (x3 - r2)) dX4_withOneOf_35 rfl ?_
      refine J_ck (fun hc6 => ?_)
      refine J_ild (pc := 37) (t := 22) (k := (tn (x3 - r2))) (ok_least hn hc5) iT_22 (inb_in hc6) rfl dX4_withOneOf_37 ?_
      refine J_aload_n (pc := 38) (x := 3) dX4_withOneOf_38 rfl ?_
      refine J_get (pc := 39) (t := 7) (k := 4) (.ref 7) (ok_c hn 3 (by decide) rfl) (by decide) rfl ingX7 (by decide) wd_158 rfl dX4_withOneOf_39 ?_
      refine J_iload_n (pc := 42) (x := x2) dX4_withOneOf_42 rfl ?_
      refine J_ck (fun hc7 => ?_)
      refine J_ild (pc := 43) (t := 14) (k := (tn x2)) (ok_c hn 7 (by decide) rfl) iT_14 (inb_in hc7) rfl dX4_withOneOf_43 ?_
      refine J_iadd (pc := 44) dX4_withOneOf_44 ?_
      exact J_iret (pc := 45) dX4_withOneOf_45
abbrev mu_X4_cheaper (G : Gt) : Mt (Int32 × Mem) := mi G cX4_cheaper 2 yX4_cheaper.cls (some .int) 1 21
def f_X4_cheaper (x0 : Int32) (x1 : Int32) (I : Mem) : Option (Int32 × Mem) :=
  (if x0 = (-1 : Int32) then some (x1, I) else (if x1 = (-1 : Int32) then some (x0, I) else some ((if x1 < x0 then x1 else x0), I)))
set_option maxRecDepth 100000 in
theorem c_X4_cheaper {G : Gt} (hG : Gok G) (hn : Gn G) (x0 : Int32) (x1 : Int32) (I : Mem) : Cti G yX4_cheaper cX4_cheaper 2 (some .int) 1 21 [.int x0, .int x1] I (f_X4_cheaper x0 x1 I) := by
  refine Cti.of (ls := [some (.int x0), some (.int x1)]) 0 hG (by decide) rfl (Nat.le_of_ble_eq_true rfl) ?_
  unfold f_X4_cheaper
  refine J_iload_n (pc := 0) (x := x0) dX4_cheaper_0 rfl ?_
  refine J_iconst (pc := 1) (v := (-1 : Int32)) dX4_cheaper_1 (by decide) ?_
  refine J_icmp_ne (pc := 2) (tgt := 7) dX4_cheaper_2 (by decide) ?_ ?_
  · refine J_iload_n (pc := 5) (x := x1) dX4_cheaper_5 rfl ?_
    exact J_iret (pc := 6) dX4_cheaper_6
  · refine J_iload_n (pc := 7) (x := x1) dX4_cheaper_7 rfl ?_
    refine J_iconst (pc := 8) (v := (-1 : Int32)) dX4_cheaper_8 (by decide) ?_
    refine J_icmp_ne (pc := 9) (tgt := 16) dX4_cheaper_9 (by decide) ?_ ?_
    · refine J_iload_n (pc := 12) (x := x0) dX4_cheaper_12 rfl ?_
      refine J_goto (pc := 13) (tgt := 21) dX4_cheaper_13 (by decide) ?_
      exact J_iret (pc := 21) dX4_cheaper_21
    · refine J_iload_n (pc := 16) (x := x0) dX4_cheaper_16 rfl ?_
      refine J_iload_n (pc := 17) (x := x1) dX4_cheaper_17 rfl ?_
      refine J_min (pc := 18) wd_164 wd_93 wd_94 wd_95 ⟨Nat.le_of_ble_eq_true rfl, Nat.le_of_ble_eq_true rfl⟩ ⟨Nat.le_of_ble_eq_true rfl, Nat.le_of_ble_eq_true rfl⟩ dX4_cheaper_18 ?_
      exact J_iret (pc := 21) dX4_cheaper_21
abbrev mu_X4_weigh_76_3 (G : Gt) : Mt Mem := mv G cX4_weigh 4 yX4_weigh.cls 2 45
def b_X4_weigh_76_3_2 (K34 : Mem → Option Mem) (R : Int32 → Mem → Option Mem) (x2 : Int32) (I : Mem) : Option Mem :=
  (if (108 : Int32) ≤ x2 then K34 I else ck (inb (I 3 0) 5) <| (if x2 = 0 then ck (inb x2 108) <| R (x2 + (1 : Int32)) (stm I (78 + (tn (I 3 0))) (tn x2) (0 : Int32)) else ck (inb x2 108) <| R (x2 + (1 : Int32)) (stm I (78 + (tn (I 3 0))) (tn x2) (-1 : Int32))))
def l_X4_weigh_76_3_2 (K34 : Mem → Option Mem) : Nat → Int32 → Mem → Option Mem := fx (b_X4_weigh_76_3_2 K34) (fun _ _ => none)
def b_X4_weigh_76_3_47 (K87 : Int32 → Mem → Option Mem) (R : Int32 → Int32 → Mem → Option Mem) (x2 : Int32) (x3 : Int32) (I : Mem) : Option Mem :=
  (if (108 : Int32) ≤ x3 then K87 x2 I else ck (inb x2 5) <| ck (inb (x2 + (1 : Int32)) 5) <| ck (inb x3 108) <| bI (f_X4_withOneOf_76_3 x2 x3 I) fun r9 I8 => bI (f_X4_cheaper (I (78 + (tn (x2 + (1 : Int32)))) (tn x3)) r9 I8) fun r11 I10 => ck (inb x3 108) <| R x2 (x3 + (1 : Int32)) (stm I10 (78 + (tn x2)) (tn x3) r11))
def l_X4_weigh_76_3_47 (K87 : Int32 → Mem → Option Mem) : Nat → Int32 → Int32 → Mem → Option Mem := fx (b_X4_weigh_76_3_47 K87) (fun _ _ _ => none)
def b_X4_weigh_76_3_41 (K93 : Mem → Option Mem) (R : Int32 → Mem → Option Mem) (x2 : Int32) (I : Mem) : Option Mem :=
  (if x2 < 0 then K93 I else l_X4_weigh_76_3_47 (fun (z13 : Int32) I14 => R (z13 + (-1 : Int32)) I14) fuel x2 (0 : Int32) I)
def l_X4_weigh_76_3_41 (K93 : Mem → Option Mem) : Nat → Int32 → Mem → Option Mem := fx (b_X4_weigh_76_3_41 K93) (fun _ _ => none)
def f_X4_weigh_76_3 (I : Mem) : Option Mem :=
  l_X4_weigh_76_3_2 (fun I4 => l_X4_weigh_76_3_41 (fun I15 => some I15) fuel ((I4 3 0) - (1 : Int32)) I4) fuel (0 : Int32) I
set_option maxRecDepth 100000 in
theorem tb_X4_weigh_76_3_2 {G : Gt} (hG : Gok G) (hn : Gn G) {K34 : Mem → Option Mem} (hK34 : ∀ (I : Mem), J G (mu_X4_weigh_76_3 G) 34 [some (.ref 76), some (.ref 3), none, none] [] I (K34 I)) {R : Int32 → Mem → Option Mem} (hR : ∀ (x2 : Int32) (I : Mem), J G (mu_X4_weigh_76_3 G) 2 [some (.ref 76), some (.ref 3), some (.int x2), none] [] I (R x2 I)) (x2 : Int32) (I : Mem) : J G (mu_X4_weigh_76_3 G) 2 [some (.ref 76), some (.ref 3), some (.int x2), none] [] I (b_X4_weigh_76_3_2 K34 R x2 I) := by
  unfold b_X4_weigh_76_3_2
  refine J_iload_n (pc := 2) (x := x2) dX4_weigh_2 rfl ?_
  refine J_bipush (pc := 3) (v := (108 : Int32)) dX4_weigh_3 (by decide) ?_
  refine J_icmp_ge (pc := 5) (tgt := 34) dX4_weigh_5 (by decide) ?_ ?_
  · refine J_weak (ls' := [some (.ref 76), some (.ref 3), none, none]) ⟨rfl, rfl, trivial⟩ ?_
    exact hK34 I
  · refine J_aload_n (pc := 8) (x := 76) dX4_weigh_8 rfl ?_
    refine J_get (pc := 9) (t := 4) (k := 0) (.ref 77) (ok_c hn 76 (by decide) rfl) (by decide) rfl ingX4 (by decide) wd_152 rfl dX4_weigh_9 ?_
    refine J_aload_n (pc := 12) (x := 3) dX4_weigh_12 rfl ?_
    refine J_get (pc := 13) (t := 7) (k := 0) (.int (I 3 0)) (ok_c hn 3 (by decide) rfl) (by decide) rfl ingX7 (by decide) wd_153 rfl dX4_weigh_13 ?_
    refine J_ck (fun hc1 => ?_)
    refine J_lald (pc := 16) (ok_c hn 77 (by decide) rfl) (inb_in hc1) dX4_weigh_16 ?_
    refine J_iload_n (pc := 17) (x := x2) dX4_weigh_17 rfl ?_
    refine J_iload_n (pc := 18) (x := x2) dX4_weigh_18 rfl ?_
    refine J_if_ne (pc := 19) (tgt := 26) dX4_weigh_19 (by decide) ?_ ?_
    · refine J_iconst (pc := 22) (v := (0 : Int32)) dX4_weigh_22 (by decide) ?_
      refine J_goto (pc := 23) (tgt := 27) dX4_weigh_23 (by decide) ?_
      refine J_ck (fun hc2 => ?_)
      refine J_ist (pc := 27) (t := 22) (k := (tn x2)) (ok_least hn hc1) iT_22 (inb_in hc2) rfl dX4_weigh_27 ?_
      refine J_iinc (pc := 28) (d := (1 : Int32)) (ls' := [some (.ref 76), some (.ref 3), some (.int (x2 + (1 : Int32))), none]) dX4_weigh_28 (by decide) rfl (Nat.le_of_ble_eq_true rfl) rfl rfl ?_
      refine J_goto (pc := 31) (tgt := 2) dX4_weigh_31 (by decide) ?_
      exact hR (x2 + (1 : Int32)) (stm I (78 + (tn (I 3 0))) (tn x2) (0 : Int32))
    · refine J_iconst (pc := 26) (v := (-1 : Int32)) dX4_weigh_26 (by decide) ?_
      refine J_ck (fun hc3 => ?_)
      refine J_ist (pc := 27) (t := 22) (k := (tn x2)) (ok_least hn hc1) iT_22 (inb_in hc3) rfl dX4_weigh_27 ?_
      refine J_iinc (pc := 28) (d := (1 : Int32)) (ls' := [some (.ref 76), some (.ref 3), some (.int (x2 + (1 : Int32))), none]) dX4_weigh_28 (by decide) rfl (Nat.le_of_ble_eq_true rfl) rfl rfl ?_
      refine J_goto (pc := 31) (tgt := 2) dX4_weigh_31 (by decide) ?_
      exact hR (x2 + (1 : Int32)) (stm I (78 + (tn (I 3 0))) (tn x2) (-1 : Int32))
theorem tl_X4_weigh_76_3_2 {G : Gt} (hG : Gok G) (hn : Gn G) {K34 : Mem → Option Mem} (hK34 : ∀ (I : Mem), J G (mu_X4_weigh_76_3 G) 34 [some (.ref 76), some (.ref 3), none, none] [] I (K34 I)) (n : Nat) : ∀ (x2 : Int32) (I : Mem), J G (mu_X4_weigh_76_3 G) 2 [some (.ref 76), some (.ref 3), some (.int x2), none] [] I (l_X4_weigh_76_3_2 K34 n x2 I) := by
  induction n with
  | zero => intro x2 I; exact J_none
  | succ n ih => intro x2 I; exact tb_X4_weigh_76_3_2 hG hn hK34 ih x2 I
set_option maxRecDepth 100000 in
theorem tb_X4_weigh_76_3_47 {G : Gt} (hG : Gok G) (hn : Gn G) {K87 : Int32 → Mem → Option Mem} (hK87 : ∀ (x2 : Int32) (I : Mem), J G (mu_X4_weigh_76_3 G) 87 [some (.ref 76), some (.ref 3), some (.int x2), none] [] I (K87 x2 I)) {R : Int32 → Int32 → Mem → Option Mem} (hR : ∀ (x2 : Int32) (x3 : Int32) (I : Mem), J G (mu_X4_weigh_76_3 G) 47 [some (.ref 76), some (.ref 3), some (.int x2), some (.int x3)] [] I (R x2 x3 I)) (x2 : Int32) (x3 : Int32) (I : Mem) : J G (mu_X4_weigh_76_3 G) 47 [some (.ref 76), some (.ref 3), some (.int x2), some (.int x3)] [] I (b_X4_weigh_76_3_47 K87 R x2 x3 I) := by
  unfold b_X4_weigh_76_3_47
  refine J_iload_n (pc := 47) (x := x3) dX4_weigh_47 rfl ?_
  refine J_bipush (pc := 48) (v := (108 : Int32)) dX4_weigh_48 (by decide) ?_
  refine J_icmp_ge (pc := 50) (tgt := 87) dX4_weigh_50 (by decide) ?_ ?_
  · refine J_weak (ls' := [some (.ref 76), some (.ref 3), some (.int x2), none]) ⟨rfl, rfl, rfl, trivial⟩ ?_
    exact hK87 x2 I
  · refine J_aload_n (pc := 53) (x := 76) dX4_weigh_53 rfl ?_
    refine J_get (pc := 54) (t := 4) (k := 0) (.ref 77) (ok_c hn 76 (by decide) rfl) (by decide) rfl ingX4 (by decide) wd_152 rfl dX4_weigh_54 ?_
    refine J_iload_n (pc := 57) (x := x2) dX4_weigh_57 rfl ?_
    refine J_ck (fun hc5 => ?_)
    refine J_lald (pc := 58) (ok_c hn 77 (by decide) rfl) (inb_in hc5) dX4_weigh_58 ?_
    refine J_iload_n (pc := 59) (x := x3) dX4_weigh_59 rfl ?_
    refine J_aload_n (pc := 60) (x := 76) dX4_weigh_60 rfl ?_
    refine J_get (pc := 61) (t := 4) (k := 0) (.ref 77) (ok_c hn 76 (by decide) rfl) (by decide) rfl ingX4 (by decide) wd_152 rfl dX4_weigh_61 ?_
    refine J_iload_n (pc := 64) (x := x2) dX4_weigh_64 rfl ?_
    refine J_iconst (pc := 65) (v := (1 : Int32)) dX4_weigh_65 (by decide) ?_
    refine J_iadd (pc := 66) dX4_weigh_66 ?_
    refine J_ck (fun hc6 => ?_)
    refine J_lald (pc := 67) (ok_c hn 77 (by decide) rfl) (inb_in hc6) dX4_weigh_67 ?_
    refine J_iload_n (pc := 68) (x := x3) dX4_weigh_68 rfl ?_
    refine J_ck (fun hc7 => ?_)
    refine J_ild (pc := 69) (t := 22) (k := (tn x3)) (ok_least hn hc6) iT_22 (inb_in hc7) rfl dX4_weigh_69 ?_
    refine J_aload_n (pc := 70) (x := 76) dX4_weigh_70 rfl ?_
    refine J_aload_n (pc := 71) (x := 3) dX4_weigh_71 rfl ?_
    refine J_iload_n (pc := 72) (x := x2) dX4_weigh_72 rfl ?_
    refine J_iload_n (pc := 73) (x := x3) dX4_weigh_73 rfl ?_
    refine J_callVi (pc := 74) (t := 4) (as := [.ref 3, .int x2, .int x3]) (st := [.int (I (78 + (tn (x2 + (1 : Int32)))) (tn x3)), .int x3, .ref (78 + (tn x2))]) (c_X4_withOneOf_76_3 hG hn x2 x3 I) (ok_c hn 76 (by decide) rfl) (by decide) rfl (cw_RX4_44 rfl) wd_160 wd_159 rfl ⟨Nat.le_of_ble_eq_true rfl, Nat.le_of_ble_eq_true rfl, Nat.le_of_ble_eq_true rfl, Nat.le_of_ble_eq_true rfl⟩ (Nat.le_of_ble_eq_true rfl) rfl dX4_weigh_74 (fun r9 I8 => ?_)
    refine J_callSi (pc := 77) (as := [.int (I (78 + (tn (x2 + (1 : Int32)))) (tn x3)), .int r9]) (st := [.int x3, .ref (78 + (tn x2))]) (c_X4_cheaper hG hn (I (78 + (tn (x2 + (1 : Int32)))) (tn x3)) r9 I8) (cw_RX4_48 rfl) wd_165 rfl ⟨Nat.le_of_ble_eq_true rfl, Nat.le_of_ble_eq_true rfl, Nat.le_of_ble_eq_true rfl, Nat.le_of_ble_eq_true rfl⟩ (Nat.le_of_ble_eq_true rfl) rfl dX4_weigh_77 (fun r11 I10 => ?_)
    refine J_ck (fun hc12 => ?_)
    refine J_ist (pc := 80) (t := 22) (k := (tn x3)) (ok_least hn hc5) iT_22 (inb_in hc12) rfl dX4_weigh_80 ?_
    refine J_iinc (pc := 81) (d := (1 : Int32)) (ls' := [some (.ref 76), some (.ref 3), some (.int x2), some (.int (x3 + (1 : Int32)))]) dX4_weigh_81 (by decide) rfl (Nat.le_of_ble_eq_true rfl) rfl rfl ?_
    refine J_goto (pc := 84) (tgt := 47) dX4_weigh_84 (by decide) ?_
    exact hR x2 (x3 + (1 : Int32)) (stm I10 (78 + (tn x2)) (tn x3) r11)
theorem tl_X4_weigh_76_3_47 {G : Gt} (hG : Gok G) (hn : Gn G) {K87 : Int32 → Mem → Option Mem} (hK87 : ∀ (x2 : Int32) (I : Mem), J G (mu_X4_weigh_76_3 G) 87 [some (.ref 76), some (.ref 3), some (.int x2), none] [] I (K87 x2 I)) (n : Nat) : ∀ (x2 : Int32) (x3 : Int32) (I : Mem), J G (mu_X4_weigh_76_3 G) 47 [some (.ref 76), some (.ref 3), some (.int x2), some (.int x3)] [] I (l_X4_weigh_76_3_47 K87 n x2 x3 I) := by
  induction n with
  | zero => intro x2 x3 I; exact J_none
  | succ n ih => intro x2 x3 I; exact tb_X4_weigh_76_3_47 hG hn hK87 ih x2 x3 I
set_option maxRecDepth 100000 in
theorem tb_X4_weigh_76_3_41 {G : Gt} (hG : Gok G) (hn : Gn G) {K93 : Mem → Option Mem} (hK93 : ∀ (I : Mem), J G (mu_X4_weigh_76_3 G) 93 [none, none, none, none] [] I (K93 I)) {R : Int32 → Mem → Option Mem} (hR : ∀ (x2 : Int32) (I : Mem), J G (mu_X4_weigh_76_3 G) 41 [some (.ref 76), some (.ref 3), some (.int x2), none] [] I (R x2 I)) (x2 : Int32) (I : Mem) : J G (mu_X4_weigh_76_3 G) 41 [some (.ref 76), some (.ref 3), some (.int x2), none] [] I (b_X4_weigh_76_3_41 K93 R x2 I) := by
  unfold b_X4_weigh_76_3_41
  refine J_iload_n (pc := 41) (x := x2) dX4_weigh_41 rfl ?_
  refine J_if_lt (pc := 42) (tgt := 93) dX4_weigh_42 (by decide) ?_ ?_
  · refine J_weak (ls' := [none, none, none, none]) trivial ?_
    exact hK93 I
  · refine J_iconst (pc := 45) (v := (0 : Int32)) dX4_weigh_45 (by decide) ?_
    refine J_istore_n (pc := 46) (ls' := [some (.ref 76), some (.ref 3), some (.int x2), some (.int (0 : Int32))]) dX4_weigh_46 (Nat.le_of_ble_eq_true rfl) rfl rfl ?_
    refine tl_X4_weigh_76_3_47 hG hn (fun z13 I14 => ?_) fuel x2 (0 : Int32) I
    · refine J_iinc (pc := 87) (d := (-1 : Int32)) (ls' := [some (.ref 76), some (.ref 3), some (.int (z13 + (-1 : Int32))), none]) dX4_weigh_87 (by decide) rfl (Nat.le_of_ble_eq_true rfl) rfl rfl ?_
      refine J_goto (pc := 90) (tgt := 41) dX4_weigh_90 (by decide) ?_
      exact hR (z13 + (-1 : Int32)) I14
theorem tl_X4_weigh_76_3_41 {G : Gt} (hG : Gok G) (hn : Gn G) {K93 : Mem → Option Mem} (hK93 : ∀ (I : Mem), J G (mu_X4_weigh_76_3 G) 93 [none, none, none, none] [] I (K93 I)) (n : Nat) : ∀ (x2 : Int32) (I : Mem), J G (mu_X4_weigh_76_3 G) 41 [some (.ref 76), some (.ref 3), some (.int x2), none] [] I (l_X4_weigh_76_3_41 K93 n x2 I) := by
  induction n with
  | zero => intro x2 I; exact J_none
  | succ n ih => intro x2 I; exact tb_X4_weigh_76_3_41 hG hn hK93 ih x2 I
set_option maxRecDepth 100000 in
theorem c_X4_weigh_76_3 {G : Gt} (hG : Gok G) (hn : Gn G) (I : Mem) : Ctv G yX4_weigh cX4_weigh 4 2 45 [.ref 76, .ref 3] I (f_X4_weigh_76_3 I) := by
  refine Ctv.of (ls := [some (.ref 76), some (.ref 3), none, none]) 2 hG (by decide) rfl (Nat.le_of_ble_eq_true rfl) ?_
  unfold f_X4_weigh_76_3
  refine J_iconst (pc := 0) (v := (0 : Int32)) dX4_weigh_0 (by decide) ?_
  refine J_istore_n (pc := 1) (ls' := [some (.ref 76), some (.ref 3), some (.int (0 : Int32)), none]) dX4_weigh_1 (Nat.le_of_ble_eq_true rfl) rfl rfl ?_
  refine tl_X4_weigh_76_3_2 hG hn (fun I4 => ?_) fuel (0 : Int32) I
  · refine J_aload_n (pc := 34) (x := 3) dX4_weigh_34 rfl ?_
    refine J_get (pc := 35) (t := 7) (k := 0) (.int (I4 3 0)) (ok_c hn 3 (by decide) rfl) (by decide) rfl ingX7 (by decide) wd_153 rfl dX4_weigh_35 ?_
    refine J_iconst (pc := 38) (v := (1 : Int32)) dX4_weigh_38 (by decide) ?_
    refine J_isub (pc := 39) dX4_weigh_39 ?_
    refine J_istore_n (pc := 40) (ls' := [some (.ref 76), some (.ref 3), some (.int ((I4 3 0) - (1 : Int32))), none]) dX4_weigh_40 (Nat.le_of_ble_eq_true rfl) rfl rfl ?_
    refine tl_X4_weigh_76_3_41 hG hn (fun I15 => ?_) fuel ((I4 3 0) - (1 : Int32)) I4
    · exact J_vret (pc := 93) dX4_weigh_93
