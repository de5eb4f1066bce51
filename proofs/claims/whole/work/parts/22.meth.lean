abbrev mu_X7_copyRow_v13_6 (G : Gt) : Mt Mem := mv G cX7_copyRow 3 yX7_copyRow.cls 0 0
def b_X7_copyRow_v13_6_2 (K26 : Mem → Option Mem) (R : Nat → Int32 → Mem → Option Mem) (a0 : Nat) (x2 : Int32) (I : Mem) : Option Mem :=
  (if (4 : Int32) ≤ x2 then K26 I else (if (4 : Int32) ≤ x2 then K26 I else ck (inb x2 4) <| ck (inb x2 4) <| R a0 (x2 + (1 : Int32)) (stm I 6 (tn x2) (I a0 (tn x2)))))
def l_X7_copyRow_v13_6_2 (K26 : Mem → Option Mem) : Nat → Nat → Int32 → Mem → Option Mem := fx (b_X7_copyRow_v13_6_2 K26) (fun _ _ _ => none)
def f_X7_copyRow_v13_6 (a0 : Nat) (I : Mem) : Option Mem :=
  l_X7_copyRow_v13_6_2 (fun I3 => some I3) fuel a0 (0 : Int32) I
set_option maxRecDepth 100000 in
theorem tb_X7_copyRow_v13_6_2 {G : Gt} (hG : Gok G) (hn : Gn G) {K26 : Mem → Option Mem} (hK26 : ∀ (I : Mem), J G (mu_X7_copyRow_v13_6 G) 26 [none, none, none] [] I (K26 I)) {R : Nat → Int32 → Mem → Option Mem} (hR : ∀ (a0 : Nat) (x2 : Int32) (o0 : ok G a0 13) (I : Mem), J G (mu_X7_copyRow_v13_6 G) 2 [some (.ref a0), some (.ref 6), some (.int x2)] [] I (R a0 x2 I)) (a0 : Nat) (x2 : Int32) (o0 : ok G a0 13) (I : Mem) : J G (mu_X7_copyRow_v13_6 G) 2 [some (.ref a0), some (.ref 6), some (.int x2)] [] I (b_X7_copyRow_v13_6_2 K26 R a0 x2 I) := by
  unfold b_X7_copyRow_v13_6_2
  refine J_iload_n (pc := 2) (x := x2) dX7_copyRow_2 rfl ?_
  refine J_aload_n (pc := 3) (x := a0) dX7_copyRow_3 rfl ?_
  refine J_aln (pc := 4) (t := 13) (v := (4 : Int32)) o0 iT_13 (by decide) dX7_copyRow_4 ?_
  refine J_icmp_ge (pc := 5) (tgt := 26) dX7_copyRow_5 (by decide) ?_ ?_
  · refine J_weak (ls' := [none, none, none]) trivial ?_
    exact hK26 I
  · refine J_iload_n (pc := 8) (x := x2) dX7_copyRow_8 rfl ?_
    refine J_aload_n (pc := 9) (x := 6) dX7_copyRow_9 rfl ?_
    refine J_aln (pc := 10) (t := 13) (v := (4 : Int32)) (ok_c hn 6 (by decide) rfl) iT_13 (by decide) dX7_copyRow_10 ?_
    refine J_icmp_ge (pc := 11) (tgt := 26) dX7_copyRow_11 (by decide) ?_ ?_
    · refine J_weak (ls' := [none, none, none]) trivial ?_
      exact hK26 I
    · refine J_aload_n (pc := 14) (x := 6) dX7_copyRow_14 rfl ?_
      refine J_iload_n (pc := 15) (x := x2) dX7_copyRow_15 rfl ?_
      refine J_aload_n (pc := 16) (x := a0) dX7_copyRow_16 rfl ?_
      refine J_iload_n (pc := 17) (x := x2) dX7_copyRow_17 rfl ?_
      refine J_ck (fun hc1 => ?_)
      refine J_ild (pc := 18) (t := 13) (k := (tn x2)) o0 iT_13 (inb_in hc1) rfl dX7_copyRow_18 ?_
      refine J_ck (fun hc2 => ?_)
      refine J_ist (pc := 19) (t := 13) (k := (tn x2)) (ok_c hn 6 (by decide) rfl) iT_13 (inb_in hc2) rfl dX7_copyRow_19 ?_
      refine J_iinc (pc := 20) (d := (1 : Int32)) (ls' := [some (.ref a0), some (.ref 6), some (.int (x2 + (1 : Int32)))]) dX7_copyRow_20 (by decide) rfl (Nat.le_of_ble_eq_true rfl) rfl rfl ?_
      refine J_goto (pc := 23) (tgt := 2) dX7_copyRow_23 (by decide) ?_
      exact hR a0 (x2 + (1 : Int32)) o0 (stm I 6 (tn x2) (I a0 (tn x2)))
theorem tl_X7_copyRow_v13_6_2 {G : Gt} (hG : Gok G) (hn : Gn G) {K26 : Mem → Option Mem} (hK26 : ∀ (I : Mem), J G (mu_X7_copyRow_v13_6 G) 26 [none, none, none] [] I (K26 I)) (n : Nat) : ∀ (a0 : Nat) (x2 : Int32) (o0 : ok G a0 13) (I : Mem), J G (mu_X7_copyRow_v13_6 G) 2 [some (.ref a0), some (.ref 6), some (.int x2)] [] I (l_X7_copyRow_v13_6_2 K26 n a0 x2 I) := by
  induction n with
  | zero => intro a0 x2 o0 I; exact J_none
  | succ n ih => intro a0 x2 o0 I; exact tb_X7_copyRow_v13_6_2 hG hn hK26 ih a0 x2 o0 I
set_option maxRecDepth 100000 in
theorem c_X7_copyRow_v13_6 {G : Gt} (hG : Gok G) (hn : Gn G) (a0 : Nat) (o0 : ok G a0 13) (I : Mem) : Ctv G yX7_copyRow cX7_copyRow 3 0 0 [.ref a0, .ref 6] I (f_X7_copyRow_v13_6 a0 I) := by
  refine Ctv.of (ls := [some (.ref a0), some (.ref 6), none]) 1 hG (by decide) rfl (Nat.le_of_ble_eq_true rfl) ?_
  unfold f_X7_copyRow_v13_6
  refine J_iconst (pc := 0) (v := (0 : Int32)) dX7_copyRow_0 (by decide) ?_
  refine J_istore_n (pc := 1) (ls' := [some (.ref a0), some (.ref 6), some (.int (0 : Int32))]) dX7_copyRow_1 (Nat.le_of_ble_eq_true rfl) rfl rfl ?_
  refine tl_X7_copyRow_v13_6_2 hG hn (fun I3 => ?_) fuel a0 (0 : Int32) o0 I
  · exact J_vret (pc := 26) dX7_copyRow_26
abbrev mu_X7_copyRow_v14_7 (G : Gt) : Mt Mem := mv G cX7_copyRow 3 yX7_copyRow.cls 0 0
def b_X7_copyRow_v14_7_2 (K26 : Mem → Option Mem) (R : Nat → Int32 → Mem → Option Mem) (a0 : Nat) (x2 : Int32) (I : Mem) : Option Mem :=
  (if (4 : Int32) ≤ x2 then K26 I else (if (4 : Int32) ≤ x2 then K26 I else ck (inb x2 4) <| ck (inb x2 4) <| R a0 (x2 + (1 : Int32)) (stm I 7 (tn x2) (I a0 (tn x2)))))
def l_X7_copyRow_v14_7_2 (K26 : Mem → Option Mem) : Nat → Nat → Int32 → Mem → Option Mem := fx (b_X7_copyRow_v14_7_2 K26) (fun _ _ _ => none)
def f_X7_copyRow_v14_7 (a0 : Nat) (I : Mem) : Option Mem :=
  l_X7_copyRow_v14_7_2 (fun I3 => some I3) fuel a0 (0 : Int32) I
set_option maxRecDepth 100000 in
theorem tb_X7_copyRow_v14_7_2 {G : Gt} (hG : Gok G) (hn : Gn G) {K26 : Mem → Option Mem} (hK26 : ∀ (I : Mem), J G (mu_X7_copyRow_v14_7 G) 26 [none, none, none] [] I (K26 I)) {R : Nat → Int32 → Mem → Option Mem} (hR : ∀ (a0 : Nat) (x2 : Int32) (o0 : ok G a0 14) (I : Mem), J G (mu_X7_copyRow_v14_7 G) 2 [some (.ref a0), some (.ref 7), some (.int x2)] [] I (R a0 x2 I)) (a0 : Nat) (x2 : Int32) (o0 : ok G a0 14) (I : Mem) : J G (mu_X7_copyRow_v14_7 G) 2 [some (.ref a0), some (.ref 7), some (.int x2)] [] I (b_X7_copyRow_v14_7_2 K26 R a0 x2 I) := by
  unfold b_X7_copyRow_v14_7_2
  refine J_iload_n (pc := 2) (x := x2) dX7_copyRow_2 rfl ?_
  refine J_aload_n (pc := 3) (x := a0) dX7_copyRow_3 rfl ?_
  refine J_aln (pc := 4) (t := 14) (v := (4 : Int32)) o0 iT_14 (by decide) dX7_copyRow_4 ?_
  refine J_icmp_ge (pc := 5) (tgt := 26) dX7_copyRow_5 (by decide) ?_ ?_
  · refine J_weak (ls' := [none, none, none]) trivial ?_
    exact hK26 I
  · refine J_iload_n (pc := 8) (x := x2) dX7_copyRow_8 rfl ?_
    refine J_aload_n (pc := 9) (x := 7) dX7_copyRow_9 rfl ?_
    refine J_aln (pc := 10) (t := 14) (v := (4 : Int32)) (ok_c hn 7 (by decide) rfl) iT_14 (by decide) dX7_copyRow_10 ?_
    refine J_icmp_ge (pc := 11) (tgt := 26) dX7_copyRow_11 (by decide) ?_ ?_
    · refine J_weak (ls' := [none, none, none]) trivial ?_
      exact hK26 I
    · refine J_aload_n (pc := 14) (x := 7) dX7_copyRow_14 rfl ?_
      refine J_iload_n (pc := 15) (x := x2) dX7_copyRow_15 rfl ?_
      refine J_aload_n (pc := 16) (x := a0) dX7_copyRow_16 rfl ?_
      refine J_iload_n (pc := 17) (x := x2) dX7_copyRow_17 rfl ?_
      refine J_ck (fun hc1 => ?_)
      refine J_ild (pc := 18) (t := 14) (k := (tn x2)) o0 iT_14 (inb_in hc1) rfl dX7_copyRow_18 ?_
      refine J_ck (fun hc2 => ?_)
      refine J_ist (pc := 19) (t := 14) (k := (tn x2)) (ok_c hn 7 (by decide) rfl) iT_14 (inb_in hc2) rfl dX7_copyRow_19 ?_
      refine J_iinc (pc := 20) (d := (1 : Int32)) (ls' := [some (.ref a0), some (.ref 7), some (.int (x2 + (1 : Int32)))]) dX7_copyRow_20 (by decide) rfl (Nat.le_of_ble_eq_true rfl) rfl rfl ?_
      refine J_goto (pc := 23) (tgt := 2) dX7_copyRow_23 (by decide) ?_
      exact hR a0 (x2 + (1 : Int32)) o0 (stm I 7 (tn x2) (I a0 (tn x2)))
theorem tl_X7_copyRow_v14_7_2 {G : Gt} (hG : Gok G) (hn : Gn G) {K26 : Mem → Option Mem} (hK26 : ∀ (I : Mem), J G (mu_X7_copyRow_v14_7 G) 26 [none, none, none] [] I (K26 I)) (n : Nat) : ∀ (a0 : Nat) (x2 : Int32) (o0 : ok G a0 14) (I : Mem), J G (mu_X7_copyRow_v14_7 G) 2 [some (.ref a0), some (.ref 7), some (.int x2)] [] I (l_X7_copyRow_v14_7_2 K26 n a0 x2 I) := by
  induction n with
  | zero => intro a0 x2 o0 I; exact J_none
  | succ n ih => intro a0 x2 o0 I; exact tb_X7_copyRow_v14_7_2 hG hn hK26 ih a0 x2 o0 I
set_option maxRecDepth 100000 in
theorem c_X7_copyRow_v14_7 {G : Gt} (hG : Gok G) (hn : Gn G) (a0 : Nat) (o0 : ok G a0 14) (I : Mem) : Ctv G yX7_copyRow cX7_copyRow 3 0 0 [.ref a0, .ref 7] I (f_X7_copyRow_v14_7 a0 I) := by
  refine Ctv.of (ls := [some (.ref a0), some (.ref 7), none]) 1 hG (by decide) rfl (Nat.le_of_ble_eq_true rfl) ?_
  unfold f_X7_copyRow_v14_7
  refine J_iconst (pc := 0) (v := (0 : Int32)) dX7_copyRow_0 (by decide) ?_
  refine J_istore_n (pc := 1) (ls' := [some (.ref a0), some (.ref 7), some (.int (0 : Int32))]) dX7_copyRow_1 (Nat.le_of_ble_eq_true rfl) rfl rfl ?_
  refine tl_X7_copyRow_v14_7_2 hG hn (fun I3 => ?_) fuel a0 (0 : Int32) o0 I
  · exact J_vret (pc := 26) dX7_copyRow_26
abbrev mu_X7_copyRow_v15_8 (G : Gt) : Mt Mem := mv G cX7_copyRow 3 yX7_copyRow.cls 0 0
def b_X7_copyRow_v15_8_2 (K26 : Mem → Option Mem) (R : Nat → Int32 → Mem → Option Mem) (a0 : Nat) (x2 : Int32) (I : Mem) : Option Mem :=
  (if (100 : Int32) ≤ x2 then K26 I else (if (100 : Int32) ≤ x2 then K26 I else ck (inb x2 100) <| ck (inb x2 100) <| R a0 (x2 + (1 : Int32)) (stm I 8 (tn x2) (I a0 (tn x2)))))
def l_X7_copyRow_v15_8_2 (K26 : Mem → Option Mem) : Nat → Nat → Int32 → Mem → Option Mem := fx (b_X7_copyRow_v15_8_2 K26) (fun _ _ _ => none)
def f_X7_copyRow_v15_8 (a0 : Nat) (I : Mem) : Option Mem :=
  l_X7_copyRow_v15_8_2 (fun I3 => some I3) fuel a0 (0 : Int32) I
set_option maxRecDepth 100000 in
theorem tb_X7_copyRow_v15_8_2 {G : Gt} (hG : Gok G) (hn : Gn G) {K26 : Mem → Option Mem} (hK26 : ∀ (I : Mem), J G (mu_X7_copyRow_v15_8 G) 26 [none, none, none] [] I (K26 I)) {R : Nat → Int32 → Mem → Option Mem} (hR : ∀ (a0 : Nat) (x2 : Int32) (o0 : ok G a0 15) (I : Mem), J G (mu_X7_copyRow_v15_8 G) 2 [some (.ref a0), some (.ref 8), some (.int x2)] [] I (R a0 x2 I)) (a0 : Nat) (x2 : Int32) (o0 : ok G a0 15) (I : Mem) : J G (mu_X7_copyRow_v15_8 G) 2 [some (.ref a0), some (.ref 8), some (.int x2)] [] I (b_X7_copyRow_v15_8_2 K26 R a0 x2 I) := by
  unfold b_X7_copyRow_v15_8_2
  refine J_iload_n (pc := 2) (x := x2) dX7_copyRow_2 rfl ?_
  refine J_aload_n (pc := 3) (x := a0) dX7_copyRow_3 rfl ?_
  refine J_aln (pc := 4) (t := 15) (v := (100 : Int32)) o0 iT_15 (by decide) dX7_copyRow_4 ?_
  refine J_icmp_ge (pc := 5) (tgt := 26) dX7_copyRow_5 (by decide) ?_ ?_
  · refine J_weak (ls' := [none, none, none]) trivial ?_
    exact hK26 I
  · refine J_iload_n (pc := 8) (x := x2) dX7_copyRow_8 rfl ?_
    refine J_aload_n (pc := 9) (x := 8) dX7_copyRow_9 rfl ?_
    refine J_aln (pc := 10) (t := 15) (v := (100 : Int32)) (ok_c hn 8 (by decide) rfl) iT_15 (by decide) dX7_copyRow_10 ?_
    refine J_icmp_ge (pc := 11) (tgt := 26) dX7_copyRow_11 (by decide) ?_ ?_
    · refine J_weak (ls' := [none, none, none]) trivial ?_
      exact hK26 I
    · refine J_aload_n (pc := 14) (x := 8) dX7_copyRow_14 rfl ?_
      refine J_iload_n (pc := 15) (x := x2) dX7_copyRow_15 rfl ?_
      refine J_aload_n (pc := 16) (x := a0) dX7_copyRow_16 rfl ?_
      refine J_iload_n (pc := 17) (x := x2) dX7_copyRow_17 rfl ?_
      refine J_ck (fun hc1 => ?_)
      refine J_ild (pc := 18) (t := 15) (k := (tn x2)) o0 iT_15 (inb_in hc1) rfl dX7_copyRow_18 ?_
      refine J_ck (fun hc2 => ?_)
      refine J_ist (pc := 19) (t := 15) (k := (tn x2)) (ok_c hn 8 (by decide) rfl) iT_15 (inb_in hc2) rfl dX7_copyRow_19 ?_
      refine J_iinc (pc := 20) (d := (1 : Int32)) (ls' := [some (.ref a0), some (.ref 8), some (.int (x2 + (1 : Int32)))]) dX7_copyRow_20 (by decide) rfl (Nat.le_of_ble_eq_true rfl) rfl rfl ?_
      refine J_goto (pc := 23) (tgt := 2) dX7_copyRow_23 (by decide) ?_
      exact hR a0 (x2 + (1 : Int32)) o0 (stm I 8 (tn x2) (I a0 (tn x2)))
theorem tl_X7_copyRow_v15_8_2 {G : Gt} (hG : Gok G) (hn : Gn G) {K26 : Mem → Option Mem} (hK26 : ∀ (I : Mem), J G (mu_X7_copyRow_v15_8 G) 26 [none, none, none] [] I (K26 I)) (n : Nat) : ∀ (a0 : Nat) (x2 : Int32) (o0 : ok G a0 15) (I : Mem), J G (mu_X7_copyRow_v15_8 G) 2 [some (.ref a0), some (.ref 8), some (.int x2)] [] I (l_X7_copyRow_v15_8_2 K26 n a0 x2 I) := by
  induction n with
  | zero => intro a0 x2 o0 I; exact J_none
  | succ n ih => intro a0 x2 o0 I; exact tb_X7_copyRow_v15_8_2 hG hn hK26 ih a0 x2 o0 I
set_option maxRecDepth 100000 in
theorem c_X7_copyRow_v15_8 {G : Gt} (hG : Gok G) (hn : Gn G) (a0 : Nat) (o0 : ok G a0 15) (I : Mem) : Ctv G yX7_copyRow cX7_copyRow 3 0 0 [.ref a0, .ref 8] I (f_X7_copyRow_v15_8 a0 I) := by
  refine Ctv.of (ls := [some (.ref a0), some (.ref 8), none]) 1 hG (by decide) rfl (Nat.le_of_ble_eq_true rfl) ?_
  unfold f_X7_copyRow_v15_8
  refine J_iconst (pc := 0) (v := (0 : Int32)) dX7_copyRow_0 (by decide) ?_
  refine J_istore_n (pc := 1) (ls' := [some (.ref a0), some (.ref 8), some (.int (0 : Int32))]) dX7_copyRow_1 (Nat.le_of_ble_eq_true rfl) rfl rfl ?_
  refine tl_X7_copyRow_v15_8_2 hG hn (fun I3 => ?_) fuel a0 (0 : Int32) o0 I
  · exact J_vret (pc := 26) dX7_copyRow_26
abbrev mu_X7_copyFrom_3_v7 (G : Gt) : Mt Mem := mv G cX7_copyFrom 2 yX7_copyFrom.cls 1 22
def f_X7_copyFrom_3_v7 (a1 : Nat) (I : Mem) : Option Mem :=
  bV (f_X7_copyRow_v11_4 (a1 + 1) (stm I 3 0 (I a1 0))) fun I1 => bV (f_X7_copyRow_v12_5 (a1 + 2) I1) fun I2 => bV (f_X7_copyRow_v13_6 (a1 + 3) I2) fun I3 => bV (f_X7_copyRow_v14_7 (a1 + 4) I3) fun I4 => bV (f_X7_copyRow_v15_8 (a1 + 5) I4) fun I5 => some I5
set_option maxRecDepth 100000 in
theorem c_X7_copyFrom_3_v7 {G : Gt} (hG : Gok G) (hn : Gn G) (a1 : Nat) (o1 : ok G a1 7) (I : Mem) : Ctv G yX7_copyFrom cX7_copyFrom 2 1 22 [.ref 3, .ref a1] I (f_X7_copyFrom_3_v7 a1 I) := by
  refine Ctv.of (ls := [some (.ref 3), some (.ref a1)]) 0 hG (by decide) rfl (Nat.le_of_ble_eq_true rfl) ?_
  unfold f_X7_copyFrom_3_v7
  refine J_aload_n (pc := 0) (x := 3) dX7_copyFrom_0 rfl ?_
  refine J_aload_n (pc := 1) (x := a1) dX7_copyFrom_1 rfl ?_
  refine J_get (pc := 2) (t := 7) (k := 0) (.int (I a1 0)) o1 (by decide) rfl ingX7 (by decide) wd_2 rfl dX7_copyFrom_2 ?_
  refine J_put (pc := 5) (t := 7) (k := 0) (ok_c hn 3 (by decide) rfl) (by decide) rfl ingX7 tyX7 tyX7_ok nmX7 (by decide) wd_2 rfl pfI (Nat.le_of_ble_eq_true rfl) rfl dX7_copyFrom_5 ?_
  refine J_aload_n (pc := 8) (x := a1) dX7_copyFrom_8 rfl ?_
  refine J_get (pc := 9) (t := 7) (k := 1) (.ref (a1 + 1)) o1 (by decide) rfl ingX7 (by decide) wd_3 rfl dX7_copyFrom_9 ?_
  refine J_aload_n (pc := 12) (x := 3) dX7_copyFrom_12 rfl ?_
  refine J_get (pc := 13) (t := 7) (k := 1) (.ref 4) (ok_c hn 3 (by decide) rfl) (by decide) rfl ingX7 (by decide) wd_3 rfl dX7_copyFrom_13 ?_
  refine J_callSv (pc := 16) (as := [.ref (a1 + 1), .ref 4]) (st := []) (c_X7_copyRow_v11_4 hG hn (a1 + 1) (okf_7_1 hn o1) (stm I 3 0 (I a1 0))) (cw_RX7_37 rfl) wd_73 rfl ⟨Nat.le_of_ble_eq_true rfl, Nat.le_of_ble_eq_true rfl, Nat.le_of_ble_eq_true rfl, Nat.le_of_ble_eq_true rfl⟩ (Nat.le_of_ble_eq_true rfl) rfl dX7_copyFrom_16 (fun I1 => ?_)
  refine J_aload_n (pc := 19) (x := a1) dX7_copyFrom_19 rfl ?_
  refine J_get (pc := 20) (t := 7) (k := 2) (.ref (a1 + 2)) o1 (by decide) rfl ingX7 (by decide) wd_34 rfl dX7_copyFrom_20 ?_
  refine J_aload_n (pc := 23) (x := 3) dX7_copyFrom_23 rfl ?_
  refine J_get (pc := 24) (t := 7) (k := 2) (.ref 5) (ok_c hn 3 (by decide) rfl) (by decide) rfl ingX7 (by decide) wd_34 rfl dX7_copyFrom_24 ?_
  refine J_callSv (pc := 27) (as := [.ref (a1 + 2), .ref 5]) (st := []) (c_X7_copyRow_v12_5 hG hn (a1 + 2) (okf_7_2 hn o1) I1) (cw_RX7_37 rfl) wd_73 rfl ⟨Nat.le_of_ble_eq_true rfl, Nat.le_of_ble_eq_true rfl, Nat.le_of_ble_eq_true rfl, Nat.le_of_ble_eq_true rfl⟩ (Nat.le_of_ble_eq_true rfl) rfl dX7_copyFrom_27 (fun I2 => ?_)
  refine J_aload_n (pc := 30) (x := a1) dX7_copyFrom_30 rfl ?_
  refine J_get (pc := 31) (t := 7) (k := 3) (.ref (a1 + 3)) o1 (by decide) rfl ingX7 (by decide) wd_35 rfl dX7_copyFrom_31 ?_
  refine J_aload_n (pc := 34) (x := 3) dX7_copyFrom_34 rfl ?_
  refine J_get (pc := 35) (t := 7) (k := 3) (.ref 6) (ok_c hn 3 (by decide) rfl) (by decide) rfl ingX7 (by decide) wd_35 rfl dX7_copyFrom_35 ?_
  refine J_callSv (pc := 38) (as := [.ref (a1 + 3), .ref 6]) (st := []) (c_X7_copyRow_v13_6 hG hn (a1 + 3) (okf_7_3 hn o1) I2) (cw_RX7_37 rfl) wd_73 rfl ⟨Nat.le_of_ble_eq_true rfl, Nat.le_of_ble_eq_true rfl, Nat.le_of_ble_eq_true rfl, Nat.le_of_ble_eq_true rfl⟩ (Nat.le_of_ble_eq_true rfl) rfl dX7_copyFrom_38 (fun I3 => ?_)
  refine J_aload_n (pc := 41) (x := a1) dX7_copyFrom_41 rfl ?_
  refine J_get (pc := 42) (t := 7) (k := 4) (.ref (a1 + 4)) o1 (by decide) rfl ingX7 (by decide) wd_36 rfl dX7_copyFrom_42 ?_
  refine J_aload_n (pc := 45) (x := 3) dX7_copyFrom_45 rfl ?_
  refine J_get (pc := 46) (t := 7) (k := 4) (.ref 7) (ok_c hn 3 (by decide) rfl) (by decide) rfl ingX7 (by decide) wd_36 rfl dX7_copyFrom_46 ?_
  refine J_callSv (pc := 49) (as := [.ref (a1 + 4), .ref 7]) (st := []) (c_X7_copyRow_v14_7 hG hn (a1 + 4) (okf_7_4 hn o1) I3) (cw_RX7_37 rfl) wd_73 rfl ⟨Nat.le_of_ble_eq_true rfl, Nat.le_of_ble_eq_true rfl, Nat.le_of_ble_eq_true rfl, Nat.le_of_ble_eq_true rfl⟩ (Nat.le_of_ble_eq_true rfl) rfl dX7_copyFrom_49 (fun I4 => ?_)
  refine J_aload_n (pc := 52) (x := a1) dX7_copyFrom_52 rfl ?_
  refine J_get (pc := 53) (t := 7) (k := 5) (.ref (a1 + 5)) o1 (by decide) rfl ingX7 (by decide) wd_4 rfl dX7_copyFrom_53 ?_
  refine J_aload_n (pc := 56) (x := 3) dX7_copyFrom_56 rfl ?_
  refine J_get (pc := 57) (t := 7) (k := 5) (.ref 8) (ok_c hn 3 (by decide) rfl) (by decide) rfl ingX7 (by decide) wd_4 rfl dX7_copyFrom_57 ?_
  refine J_callSv (pc := 60) (as := [.ref (a1 + 5), .ref 8]) (st := []) (c_X7_copyRow_v15_8 hG hn (a1 + 5) (okf_7_5 hn o1) I4) (cw_RX7_37 rfl) wd_73 rfl ⟨Nat.le_of_ble_eq_true rfl, Nat.le_of_ble_eq_true rfl, Nat.le_of_ble_eq_true rfl, Nat.le_of_ble_eq_true rfl⟩ (Nat.le_of_ble_eq_true rfl) rfl dX7_copyFrom_60 (fun I5 => ?_)
  exact J_vret (pc := 63) dX7_copyFrom_63
abbrev mu_X1_bringBack_15_3 (G : Gt) : Mt Mem := mv G cX1_bringBack 2 yX1_bringBack.cls 2 43
def f_X1_bringBack_15_3 (I : Mem) : Option Mem :=
  (if (I 15 1) ≤ 0 then some I else ck (inb ((stm I 15 1 ((I 15 1) - (1 : Int32))) 15 1) 6) <| ck (stag (tn ((stm I 15 1 ((I 15 1) - (1 : Int32))) 16 (tn ((stm I 15 1 ((I 15 1) - (1 : Int32))) 15 1)))) == 7) <| bV (f_X7_copyFrom_3_v7 (tn ((stm I 15 1 ((I 15 1) - (1 : Int32))) 16 (tn ((stm I 15 1 ((I 15 1) - (1 : Int32))) 15 1)))) (stm I 15 1 ((I 15 1) - (1 : Int32)))) fun I3 => some I3)
set_option maxRecDepth 100000 in
theorem c_X1_bringBack_15_3 {G : Gt} (hG : Gok G) (hn : Gn G) (I : Mem) : Ctv G yX1_bringBack cX1_bringBack 2 2 43 [.ref 15, .ref 3] I (f_X1_bringBack_15_3 I) := by
  refine Ctv.of (ls := [some (.ref 15), some (.ref 3)]) 0 hG (by decide) rfl (Nat.le_of_ble_eq_true rfl) ?_
  unfold f_X1_bringBack_15_3
  refine J_aload_n (pc := 0) (x := 15) dX1_bringBack_0 rfl ?_
  refine J_get (pc := 1) (t := 1) (k := 1) (.int (I 15 1)) (ok_c hn 15 (by decide) rfl) (by decide) rfl ingX1 (by decide) wd_239 rfl dX1_bringBack_1 ?_
  refine J_if_le (pc := 4) (tgt := 30) dX1_bringBack_4 (by decide) ?_ ?_
  · exact J_vret (pc := 30) dX1_bringBack_30
  · refine J_aload_n (pc := 7) (x := 15) dX1_bringBack_7 rfl ?_
    refine J_dupR (pc := 8) dX1_bringBack_8 ?_
    refine J_get (pc := 9) (t := 1) (k := 1) (.int (I 15 1)) (ok_c hn 15 (by decide) rfl) (by decide) rfl ingX1 (by decide) wd_239 rfl dX1_bringBack_9 ?_
    refine J_iconst (pc := 12) (v := (1 : Int32)) dX1_bringBack_12 (by decide) ?_
    refine J_isub (pc := 13) dX1_bringBack_13 ?_
    refine J_put (pc := 14) (t := 1) (k := 1) (ok_c hn 15 (by decide) rfl) (by decide) rfl ingX1 tyX1 tyX1_ok nmX1 (by decide) wd_239 rfl pfI (Nat.le_of_ble_eq_true rfl) rfl dX1_bringBack_14 ?_
    refine J_aload_n (pc := 17) (x := 3) dX1_bringBack_17 rfl ?_
    refine J_aload_n (pc := 18) (x := 15) dX1_bringBack_18 rfl ?_
    refine J_get (pc := 19) (t := 1) (k := 0) (.ref 16) (ok_c hn 15 (by decide) rfl) (by decide) rfl ingX1 (by decide) wd_240 rfl dX1_bringBack_19 ?_
    refine J_aload_n (pc := 22) (x := 15) dX1_bringBack_22 rfl ?_
    refine J_get (pc := 23) (t := 1) (k := 1) (.int ((stm I 15 1 ((I 15 1) - (1 : Int32))) 15 1)) (ok_c hn 15 (by decide) rfl) (by decide) rfl ingX1 (by decide) wd_239 rfl dX1_bringBack_23 ?_
    refine J_ck (fun hc1 => ?_)
    refine J_kld (pc := 26) (k := (tn ((stm I 15 1 ((I 15 1) - (1 : Int32))) 15 1))) (ok_c hn 16 (by decide) rfl) (inb_in hc1) rfl dX1_bringBack_26 ?_
    refine J_ck (fun hc2 => ?_)
    refine J_callVv (pc := 27) (t := 7) (as := [.ref (tn ((stm I 15 1 ((I 15 1) - (1 : Int32))) 16 (tn ((stm I 15 1 ((I 15 1) - (1 : Int32))) 15 1))))]) (st := []) (c_X7_copyFrom_3_v7 hG hn (tn ((stm I 15 1 ((I 15 1) - (1 : Int32))) 16 (tn ((stm I 15 1 ((I 15 1) - (1 : Int32))) 15 1)))) (ok_told hn hc2) (stm I 15 1 ((I 15 1) - (1 : Int32)))) (ok_c hn 3 (by decide) rfl) (by decide) rfl (cw_RX1_25 rfl) wd_77 wd_76 rfl ⟨Nat.le_of_ble_eq_true rfl, Nat.le_of_ble_eq_true rfl, Nat.le_of_ble_eq_true rfl, Nat.le_of_ble_eq_true rfl⟩ (Nat.le_of_ble_eq_true rfl) rfl dX1_bringBack_27 (fun I3 => ?_)
    exact J_vret (pc := 30) dX1_bringBack_30
abbrev mu_X8_undo (G : Gt) : Mt (Int32 × Mem) := mi G cX8_undo 1 yX8_undo.cls (some .int) 5 115
def f_X8_undo (I : Mem) : Option (Int32 × Mem) :=
  (if (I 15 1) = 0 then some ((-2 : Int32), I) else bV (f_X1_bringBack_15_3 I) fun I1 => bV (f_X8_settle I1) fun I2 => some ((I2 15 1), I2))
set_option maxRecDepth 100000 in
theorem c_X8_undo {G : Gt} (hG : Gok G) (hn : Gn G) (I : Mem) : Cti G yX8_undo cX8_undo 1 (some .int) 5 115 [.ref 0] I (f_X8_undo I) := by
  refine Cti.of (ls := [some (.ref 0)]) 0 hG (by decide) rfl (Nat.le_of_ble_eq_true rfl) ?_
  unfold f_X8_undo
  refine J_aload_n (pc := 0) (x := 0) dX8_undo_0 rfl ?_
  refine J_get (pc := 1) (t := 8) (k := 3) (.ref 15) (ok_c hn 0 (by decide) rfl) (by decide) rfl ingX8 (by decide) wd_80 rfl dX8_undo_1 ?_
  refine J_get (pc := 4) (t := 1) (k := 1) (.int (I 15 1)) (ok_c hn 15 (by decide) rfl) (by decide) rfl ingX1 (by decide) wd_81 rfl dX8_undo_4 ?_
  refine J_if_ne (pc := 7) (tgt := 13) dX8_undo_7 (by decide) ?_ ?_
  · refine J_bipush (pc := 10) (v := (-2 : Int32)) dX8_undo_10 (by decide) ?_
    exact J_iret (pc := 12) dX8_undo_12
  · refine J_aload_n (pc := 13) (x := 0) dX8_undo_13 rfl ?_
    refine J_get (pc := 14) (t := 8) (k := 3) (.ref 15) (ok_c hn 0 (by decide) rfl) (by decide) rfl ingX8 (by decide) wd_80 rfl dX8_undo_14 ?_
    refine J_aload_n (pc := 17) (x := 0) dX8_undo_17 rfl ?_
    refine J_get (pc := 18) (t := 8) (k := 1) (.ref 3) (ok_c hn 0 (by decide) rfl) (by decide) rfl ingX8 (by decide) wd_72 rfl dX8_undo_18 ?_
    refine J_callVv (pc := 21) (t := 1) (as := [.ref 3]) (st := []) (c_X1_bringBack_15_3 hG hn I) (ok_c hn 15 (by decide) rfl) (by decide) rfl (cw_RX8_133 rfl) wd_273 wd_272 rfl ⟨Nat.le_of_ble_eq_true rfl, Nat.le_of_ble_eq_true rfl, Nat.le_of_ble_eq_true rfl, Nat.le_of_ble_eq_true rfl⟩ (Nat.le_of_ble_eq_true rfl) rfl dX8_undo_21 (fun I1 => ?_)
    refine J_aload_n (pc := 24) (x := 0) dX8_undo_24 rfl ?_
    refine J_callVv (pc := 25) (t := 8) (as := []) (st := []) (c_X8_settle hG hn I1) (ok_c hn 0 (by decide) rfl) (by decide) rfl (cw_RX8_136 rfl) wd_223 wd_222 rfl ⟨Nat.le_of_ble_eq_true rfl, Nat.le_of_ble_eq_true rfl, Nat.le_of_ble_eq_true rfl, Nat.le_of_ble_eq_true rfl⟩ (Nat.le_of_ble_eq_true rfl) rfl dX8_undo_25 (fun I2 => ?_)
    refine J_aload_n (pc := 28) (x := 0) dX8_undo_28 rfl ?_
    refine J_get (pc := 29) (t := 8) (k := 3) (.ref 15) (ok_c hn 0 (by decide) rfl) (by decide) rfl ingX8 (by decide) wd_80 rfl dX8_undo_29 ?_
    refine J_get (pc := 32) (t := 1) (k := 1) (.int (I2 15 1)) (ok_c hn 15 (by decide) rfl) (by decide) rfl ingX1 (by decide) wd_81 rfl dX8_undo_32 ?_
    exact J_iret (pc := 35) dX8_undo_35
abbrev mu_X8_scheme (G : Gt) : Mt (Int32 × Mem) := mi G cX8_scheme 3 yX8_scheme.cls (some .int) 1 21
def f_X8_scheme (x1 : Int32) (x2 : Int32) (I : Mem) : Option (Int32 × Mem) :=
  bI (f_X8_isScheme x1 I) fun r2 I1 => (if r2 = 0 then some ((-1 : Int32), I1) else (if x2 = (0 : Int32) then ck (inb x1 4) <| some ((I1 5 (tn x1)), I1) else (if x2 = (1 : Int32) then ck (inb x1 4) <| some ((I1 (54 + 4 * (tn x1)) 0), I1) else (if x2 = (2 : Int32) then ck (inb x1 4) <| some ((I1 (54 + 4 * (tn x1)) 1), I1) else (if x2 = (3 : Int32) then bI (f_X7_pagesOf x1 I1) fun r11 I10 => some (r11, I10) else (if x2 = (4 : Int32) then ck (inb x1 4) <| some ((I1 7 (tn x1)), I1) else (if x2 = (5 : Int32) then ck (inb x1 4) <| some ((I1 83 (tn x1)), I1) else some ((-1 : Int32), I1))))))))
set_option maxRecDepth 100000 in
theorem c_X8_scheme {G : Gt} (hG : Gok G) (hn : Gn G) (x1 : Int32) (x2 : Int32) (I : Mem) : Cti G yX8_scheme cX8_scheme 3 (some .int) 1 21 [.ref 0, .int x1, .int x2] I (f_X8_scheme x1 x2 I) := by
  refine Cti.of (ls := [some (.ref 0), some (.int x1), some (.int x2)]) 0 hG (by decide) rfl (Nat.le_of_ble_eq_true rfl) ?_
  unfold f_X8_scheme
  refine J_aload_n (pc := 0) (x := 0) dX8_scheme_0 rfl ?_
  refine J_iload_n (pc := 1) (x := x1) dX8_scheme_1 rfl ?_
  refine J_callVi (pc := 2) (t := 8) (as := [.int x1]) (st := []) (c_X8_isScheme hG hn x1 I) (ok_c hn 0 (by decide) rfl) (by decide) rfl (cw_RX8_104 rfl) wd_257 wd_256 rfl ⟨Nat.le_of_ble_eq_true rfl, Nat.le_of_ble_eq_true rfl, Nat.le_of_ble_eq_true rfl, Nat.le_of_ble_eq_true rfl⟩ (Nat.le_of_ble_eq_true rfl) rfl dX8_scheme_2 (fun r2 I1 => ?_)
  refine J_if_ne (pc := 5) (tgt := 10) dX8_scheme_5 (by decide) ?_ ?_
  · refine J_iconst (pc := 8) (v := (-1 : Int32)) dX8_scheme_8 (by decide) ?_
    exact J_iret (pc := 9) dX8_scheme_9
  · refine J_iload_n (pc := 10) (x := x2) dX8_scheme_10 rfl ?_
    refine J_ite (fun hq3 => ?_) (fun hq3 => ?_)
    · refine J_tblIn (pc := 11) (off := 37) (tgt := 48) dX8_scheme_11 (by rw [hq3]; decide) (by rw [hq3]; decide) (by rw [hq3]; decide) (by decide) ?_
      refine J_aload_n (pc := 48) (x := 0) dX8_scheme_48 rfl ?_
      refine J_get (pc := 49) (t := 8) (k := 1) (.ref 3) (ok_c hn 0 (by decide) rfl) (by decide) rfl ingX8 (by decide) wd_72 rfl dX8_scheme_49 ?_
      refine J_get (pc := 52) (t := 7) (k := 2) (.ref 5) (ok_c hn 3 (by decide) rfl) (by decide) rfl ingX7 (by decide) wd_83 rfl dX8_scheme_52 ?_
      refine J_iload_n (pc := 55) (x := x1) dX8_scheme_55 rfl ?_
      refine J_ck (fun hc4 => ?_)
      refine J_ild (pc := 56) (t := 12) (k := (tn x1)) (ok_c hn 5 (by decide) rfl) iT_12 (inb_in hc4) rfl dX8_scheme_56 ?_
      exact J_iret (pc := 57) dX8_scheme_57
    refine J_ite (fun hq5 => ?_) (fun hq5 => ?_)
    · refine J_tblIn (pc := 11) (off := 47) (tgt := 58) dX8_scheme_11 (by rw [hq5]; decide) (by rw [hq5]; decide) (by rw [hq5]; decide) (by decide) ?_
      refine J_aload_n (pc := 58) (x := 0) dX8_scheme_58 rfl ?_
      refine J_get (pc := 59) (t := 8) (k := 4) (.ref 53) (ok_c hn 0 (by decide) rfl) (by decide) rfl ingX8 (by decide) wd_82 rfl dX8_scheme_59 ?_
      refine J_iload_n (pc := 62) (x := x1) dX8_scheme_62 rfl ?_
      refine J_ck (fun hc6 => ?_)
      refine J_sald (pc := 63) (ok_c hn 53 (by decide) rfl) (inb_in hc6) dX8_scheme_63 ?_
      refine J_get (pc := 64) (t := 5) (k := 0) (.int (I1 (54 + 4 * (tn x1)) 0)) (ok_sheet hn hc6) (by decide) rfl ingX5 (by decide) wd_276 rfl dX8_scheme_64 ?_
      exact J_iret (pc := 67) dX8_scheme_67
    refine J_ite (fun hq7 => ?_) (fun hq7 => ?_)
    · refine J_tblIn (pc := 11) (off := 57) (tgt := 68) dX8_scheme_11 (by rw [hq7]; decide) (by rw [hq7]; decide) (by rw [hq7]; decide) (by decide) ?_
      refine J_aload_n (pc := 68) (x := 0) dX8_scheme_68 rfl ?_
      refine J_get (pc := 69) (t := 8) (k := 4) (.ref 53) (ok_c hn 0 (by decide) rfl) (by decide) rfl ingX8 (by decide) wd_82 rfl dX8_scheme_69 ?_
      refine J_iload_n (pc := 72) (x := x1) dX8_scheme_72 rfl ?_
      refine J_ck (fun hc8 => ?_)
      refine J_sald (pc := 73) (ok_c hn 53 (by decide) rfl) (inb_in hc8) dX8_scheme_73 ?_
      refine J_get (pc := 74) (t := 5) (k := 1) (.int (I1 (54 + 4 * (tn x1)) 1)) (ok_sheet hn hc8) (by decide) rfl ingX5 (by decide) wd_277 rfl dX8_scheme_74 ?_
      exact J_iret (pc := 77) dX8_scheme_77
    refine J_ite (fun hq9 => ?_) (fun hq9 => ?_)
    · refine J_tblIn (pc := 11) (off := 67) (tgt := 78) dX8_scheme_11 (by rw [hq9]; decide) (by rw [hq9]; decide) (by rw [hq9]; decide) (by decide) ?_
      refine J_aload_n (pc := 78) (x := 0) dX8_scheme_78 rfl ?_
      refine J_get (pc := 79) (t := 8) (k := 1) (.ref 3) (ok_c hn 0 (by decide) rfl) (by decide) rfl ingX8 (by decide) wd_72 rfl dX8_scheme_79 ?_
      refine J_iload_n (pc := 82) (x := x1) dX8_scheme_82 rfl ?_
      refine J_callVi (pc := 83) (t := 7) (as := [.int x1]) (st := []) (c_X7_pagesOf hG hn x1 I1) (ok_c hn 3 (by decide) rfl) (by decide) rfl (cw_RX8_145 rfl) wd_197 wd_196 rfl ⟨Nat.le_of_ble_eq_true rfl, Nat.le_of_ble_eq_true rfl, Nat.le_of_ble_eq_true rfl, Nat.le_of_ble_eq_true rfl⟩ (Nat.le_of_ble_eq_true rfl) rfl dX8_scheme_83 (fun r11 I10 => ?_)
      exact J_iret (pc := 86) dX8_scheme_86
    refine J_ite (fun hq12 => ?_) (fun hq12 => ?_)
    · refine J_tblIn (pc := 11) (off := 76) (tgt := 87) dX8_scheme_11 (by rw [hq12]; decide) (by rw [hq12]; decide) (by rw [hq12]; decide) (by decide) ?_
      refine J_aload_n (pc := 87) (x := 0) dX8_scheme_87 rfl ?_
      refine J_get (pc := 88) (t := 8) (k := 1) (.ref 3) (ok_c hn 0 (by decide) rfl) (by decide) rfl ingX8 (by decide) wd_72 rfl dX8_scheme_88 ?_
      refine J_get (pc := 91) (t := 7) (k := 4) (.ref 7) (ok_c hn 3 (by decide) rfl) (by decide) rfl ingX7 (by decide) wd_260 rfl dX8_scheme_91 ?_
      refine J_iload_n (pc := 94) (x := x1) dX8_scheme_94 rfl ?_
      refine J_ck (fun hc13 => ?_)
      refine J_ild (pc := 95) (t := 14) (k := (tn x1)) (ok_c hn 7 (by decide) rfl) iT_14 (inb_in hc13) rfl dX8_scheme_95 ?_
      exact J_iret (pc := 96) dX8_scheme_96
    refine J_ite (fun hq14 => ?_) (fun hq14 => ?_)
    · refine J_tblIn (pc := 11) (off := 86) (tgt := 97) dX8_scheme_11 (by rw [hq14]; decide) (by rw [hq14]; decide) (by rw [hq14]; decide) (by decide) ?_
      refine J_aload_n (pc := 97) (x := 0) dX8_scheme_97 rfl ?_
      refine J_get (pc := 98) (t := 8) (k := 6) (.ref 76) (ok_c hn 0 (by decide) rfl) (by decide) rfl ingX8 (by decide) wd_151 rfl dX8_scheme_98 ?_
      refine J_get (pc := 101) (t := 4) (k := 1) (.ref 83) (ok_c hn 76 (by decide) rfl) (by decide) rfl ingX4 (by decide) wd_279 rfl dX8_scheme_101 ?_
      refine J_iload_n (pc := 104) (x := x1) dX8_scheme_104 rfl ?_
      refine J_ck (fun hc15 => ?_)
      refine J_ild (pc := 105) (t := 23) (k := (tn x1)) (ok_c hn 83 (by decide) rfl) iT_23 (inb_in hc15) rfl dX8_scheme_105 ?_
      exact J_iret (pc := 106) dX8_scheme_106
    refine J_tblOut (pc := 11) (tgt := 107) dX8_scheme_11 (by have e0 := ne_int hq3 (show ((0 : Int32)).toInt = 0 by decide); have e1 := ne_int hq5 (show ((1 : Int32)).toInt = 1 by decide); have e2 := ne_int hq7 (show ((2 : Int32)).toInt = 2 by decide); have e3 := ne_int hq9 (show ((3 : Int32)).toInt = 3 by decide); have e4 := ne_int hq12 (show ((4 : Int32)).toInt = 4 by decide); have e5 := ne_int hq14 (show ((5 : Int32)).toInt = 5 by decide); omega) (by decide) ?_
    refine J_iconst (pc := 107) (v := (-1 : Int32)) dX8_scheme_107 (by decide) ?_
    exact J_iret (pc := 108) dX8_scheme_108
abbrev mu_X8_fold (G : Gt) : Mt (Int32 × Mem) := mi G cX8_fold 3 yX8_fold.cls (some .int) 4 85
def f_X8_fold (x1 : Int32) (x2 : Int32) (I : Mem) : Option (Int32 × Mem) :=
  bI (f_X8_isScheme x1 I) fun r2 I1 => (if r2 = 0 then some ((-1 : Int32), I1) else (if x2 < 0 then some ((-1 : Int32), I1) else (if x2 < (4 : Int32) then ck (inb x1 4) <| (if x2 < (I1 5 (tn x1)) then ck (inb x1 4) <| ck (inb x1 4) <| bI (f_X5_figureAt (I1 5 (tn x1)) (I1 6 (tn x1)) x2 I1) fun r7 I6 => ck (inb r7 (sln.getD 1 0)) <| some ((sch 1 r7), I6) else some ((-4 : Int32), I1)) else some ((-1 : Int32), I1))))
set_option maxRecDepth 100000 in
theorem c_X8_fold {G : Gt} (hG : Gok G) (hn : Gn G) (x1 : Int32) (x2 : Int32) (I : Mem) : Cti G yX8_fold cX8_fold 3 (some .int) 4 85 [.ref 0, .int x1, .int x2] I (f_X8_fold x1 x2 I) := by
  refine Cti.of (ls := [some (.ref 0), some (.int x1), some (.int x2)]) 0 hG (by decide) rfl (Nat.le_of_ble_eq_true rfl) ?_
  unfold f_X8_fold
  refine J_aload_n (pc := 0) (x := 0) dX8_fold_0 rfl ?_
  refine J_iload_n (pc := 1) (x := x1) dX8_fold_1 rfl ?_
  refine J_callVi (pc := 2) (t := 8) (as := [.int x1]) (st := []) (c_X8_isScheme hG hn x1 I) (ok_c hn 0 (by decide) rfl) (by decide) rfl (cw_RX8_104 rfl) wd_257 wd_256 rfl ⟨Nat.le_of_ble_eq_true rfl, Nat.le_of_ble_eq_true rfl, Nat.le_of_ble_eq_true rfl, Nat.le_of_ble_eq_true rfl⟩ (Nat.le_of_ble_eq_true rfl) rfl dX8_fold_2 (fun r2 I1 => ?_)
  refine J_if_eq (pc := 5) (tgt := 17) dX8_fold_5 (by decide) ?_ ?_
  · refine J_iconst (pc := 17) (v := (-1 : Int32)) dX8_fold_17 (by decide) ?_
    exact J_iret (pc := 18) dX8_fold_18
  · refine J_iload_n (pc := 8) (x := x2) dX8_fold_8 rfl ?_
    refine J_if_lt (pc := 9) (tgt := 17) dX8_fold_9 (by decide) ?_ ?_
    · refine J_iconst (pc := 17) (v := (-1 : Int32)) dX8_fold_17 (by decide) ?_
      exact J_iret (pc := 18) dX8_fold_18
    · refine J_iload_n (pc := 12) (x := x2) dX8_fold_12 rfl ?_
      refine J_iconst (pc := 13) (v := (4 : Int32)) dX8_fold_13 (by decide) ?_
      refine J_icmp_lt (pc := 14) (tgt := 19) dX8_fold_14 (by decide) ?_ ?_
      · refine J_iload_n (pc := 19) (x := x2) dX8_fold_19 rfl ?_
        refine J_aload_n (pc := 20) (x := 0) dX8_fold_20 rfl ?_
        refine J_get (pc := 21) (t := 8) (k := 1) (.ref 3) (ok_c hn 0 (by decide) rfl) (by decide) rfl ingX8 (by decide) wd_72 rfl dX8_fold_21 ?_
        refine J_get (pc := 24) (t := 7) (k := 2) (.ref 5) (ok_c hn 3 (by decide) rfl) (by decide) rfl ingX7 (by decide) wd_83 rfl dX8_fold_24 ?_
        refine J_iload_n (pc := 27) (x := x1) dX8_fold_27 rfl ?_
        refine J_ck (fun hc3 => ?_)
        refine J_ild (pc := 28) (t := 12) (k := (tn x1)) (ok_c hn 5 (by decide) rfl) iT_12 (inb_in hc3) rfl dX8_fold_28 ?_
        refine J_icmp_lt (pc := 29) (tgt := 35) dX8_fold_29 (by decide) ?_ ?_
        · refine J_ldcS (pc := 35) (own := RX8) (tx := "blrt") 1 rfl (by decide) dX8_fold_35 ?_
          refine J_aload_n (pc := 37) (x := 0) dX8_fold_37 rfl ?_
          refine J_get (pc := 38) (t := 8) (k := 1) (.ref 3) (ok_c hn 0 (by decide) rfl) (by decide) rfl ingX8 (by decide) wd_72 rfl dX8_fold_38 ?_
          refine J_get (pc := 41) (t := 7) (k := 2) (.ref 5) (ok_c hn 3 (by decide) rfl) (by decide) rfl ingX7 (by decide) wd_83 rfl dX8_fold_41 ?_
          refine J_iload_n (pc := 44) (x := x1) dX8_fold_44 rfl ?_
          refine J_ck (fun hc4 => ?_)
          refine J_ild (pc := 45) (t := 12) (k := (tn x1)) (ok_c hn 5 (by decide) rfl) iT_12 (inb_in hc4) rfl dX8_fold_45 ?_
          refine J_aload_n (pc := 46) (x := 0) dX8_fold_46 rfl ?_
          refine J_get (pc := 47) (t := 8) (k := 1) (.ref 3) (ok_c hn 0 (by decide) rfl) (by decide) rfl ingX8 (by decide) wd_72 rfl dX8_fold_47 ?_
          refine J_get (pc := 50) (t := 7) (k := 3) (.ref 6) (ok_c hn 3 (by decide) rfl) (by decide) rfl ingX7 (by decide) wd_84 rfl dX8_fold_50 ?_
          refine J_iload_n (pc := 53) (x := x1) dX8_fold_53 rfl ?_
          refine J_ck (fun hc5 => ?_)
          refine J_ild (pc := 54) (t := 13) (k := (tn x1)) (ok_c hn 6 (by decide) rfl) iT_13 (inb_in hc5) rfl dX8_fold_54 ?_
          refine J_iload_n (pc := 55) (x := x2) dX8_fold_55 rfl ?_
          refine J_callSi (pc := 56) (as := [.int (I1 5 (tn x1)), .int (I1 6 (tn x1)), .int x2]) (st := [.ref 1011]) (c_X5_figureAt hG hn (I1 5 (tn x1)) (I1 6 (tn x1)) x2 I1) (cw_RX8_154 rfl) wd_86 rfl ⟨Nat.le_of_ble_eq_true rfl, Nat.le_of_ble_eq_true rfl, Nat.le_of_ble_eq_true rfl, Nat.le_of_ble_eq_true rfl⟩ (Nat.le_of_ble_eq_true rfl) rfl dX8_fold_56 (fun r7 I6 => ?_)
          refine J_ck (fun hc8 => ?_)
          refine J_str (pc := 59) (as := [.int r7]) (st := []) (c_sch hG hn 1 (by decide) r7 hc8 I6) (by decide) (cw_RX8_69 rfl) wd_283 wd_284 rfl ⟨Nat.le_of_ble_eq_true rfl, Nat.le_of_ble_eq_true rfl, Nat.le_of_ble_eq_true rfl, Nat.le_of_ble_eq_true rfl⟩ (Nat.le_of_ble_eq_true rfl) rfl dX8_fold_59 ?_
          exact J_iret (pc := 62) dX8_fold_62
        · refine J_bipush (pc := 32) (v := (-4 : Int32)) dX8_fold_32 (by decide) ?_
          exact J_iret (pc := 34) dX8_fold_34
      · refine J_iconst (pc := 17) (v := (-1 : Int32)) dX8_fold_17 (by decide) ?_
        exact J_iret (pc := 18) dX8_fold_18
abbrev mu_X8_isSide (G : Gt) : Mt (Int32 × Mem) := mi G cX8_isSide 1 yX8_isSide.cls (some .boolean) 0 0
def f_X8_isSide (x0 : Int32) (I : Mem) : Option (Int32 × Mem) :=
  (if x0 = 0 then some ((1 : Int32), I) else (if x0 = (1 : Int32) then some ((1 : Int32), I) else some ((0 : Int32), I)))
set_option maxRecDepth 100000 in
theorem c_X8_isSide {G : Gt} (hG : Gok G) (hn : Gn G) (x0 : Int32) (I : Mem) : Cti G yX8_isSide cX8_isSide 1 (some .boolean) 0 0 [.int x0] I (f_X8_isSide x0 I) := by
  refine Cti.of (ls := [some (.int x0)]) 0 hG (by decide) rfl (Nat.le_of_ble_eq_true rfl) ?_
  unfold f_X8_isSide
  refine J_iload_n (pc := 0) (x := x0) dX8_isSide_0 rfl ?_
  refine J_if_eq (pc := 1) (tgt := 9) dX8_isSide_1 (by decide) ?_ ?_
  · refine J_iconst (pc := 9) (v := (1 : Int32)) dX8_isSide_9 (by decide) ?_
    refine J_goto (pc := 10) (tgt := 14) dX8_isSide_10 (by decide) ?_
    exact J_zret (pc := 14) rfl dX8_isSide_14
  · refine J_iload_n (pc := 4) (x := x0) dX8_isSide_4 rfl ?_
    refine J_iconst (pc := 5) (v := (1 : Int32)) dX8_isSide_5 (by decide) ?_
    refine J_icmp_ne (pc := 6) (tgt := 13) dX8_isSide_6 (by decide) ?_ ?_
    · refine J_iconst (pc := 9) (v := (1 : Int32)) dX8_isSide_9 (by decide) ?_
      refine J_goto (pc := 10) (tgt := 14) dX8_isSide_10 (by decide) ?_
      exact J_zret (pc := 14) rfl dX8_isSide_14
    · refine J_iconst (pc := 13) (v := (0 : Int32)) dX8_isSide_13 (by decide) ?_
      exact J_zret (pc := 14) rfl dX8_isSide_14
abbrev mu_X5_hasCell (G : Gt) : Mt (Int32 × Mem) := mi G cX5_hasCell 3 yX5_hasCell.cls (some .boolean) 0 0
def f_X5_hasCell (a0 : Nat) (x1 : Int32) (x2 : Int32) (I : Mem) : Option (Int32 × Mem) :=
  (if x1 < 0 then some ((0 : Int32), I) else (if (I a0 0) ≤ x1 then some ((0 : Int32), I) else (if x2 < 0 then some ((0 : Int32), I) else (if (I a0 1) ≤ x2 then some ((0 : Int32), I) else some ((1 : Int32), I)))))
set_option maxRecDepth 100000 in
theorem c_X5_hasCell {G : Gt} (hG : Gok G) (hn : Gn G) (a0 : Nat) (x1 : Int32) (x2 : Int32) (o0 : ok G a0 5) (I : Mem) : Cti G yX5_hasCell cX5_hasCell 3 (some .boolean) 0 0 [.ref a0, .int x1, .int x2] I (f_X5_hasCell a0 x1 x2 I) := by
  refine Cti.of (ls := [some (.ref a0), some (.int x1), some (.int x2)]) 0 hG (by decide) rfl (Nat.le_of_ble_eq_true rfl) ?_
  unfold f_X5_hasCell
  refine J_iload_n (pc := 0) (x := x1) dX5_hasCell_0 rfl ?_
  refine J_if_lt (pc := 1) (tgt := 28) dX5_hasCell_1 (by decide) ?_ ?_
  · refine J_iconst (pc := 28) (v := (0 : Int32)) dX5_hasCell_28 (by decide) ?_
    exact J_zret (pc := 29) rfl dX5_hasCell_29
  · refine J_iload_n (pc := 4) (x := x1) dX5_hasCell_4 rfl ?_
    refine J_aload_n (pc := 5) (x := a0) dX5_hasCell_5 rfl ?_
    refine J_get (pc := 6) (t := 5) (k := 0) (.int (I a0 0)) o0 (by decide) rfl ingX5 (by decide) wd_90 rfl dX5_hasCell_6 ?_
    refine J_icmp_ge (pc := 9) (tgt := 28) dX5_hasCell_9 (by decide) ?_ ?_
    · refine J_iconst (pc := 28) (v := (0 : Int32)) dX5_hasCell_28 (by decide) ?_
      exact J_zret (pc := 29) rfl dX5_hasCell_29
    · refine J_iload_n (pc := 12) (x := x2) dX5_hasCell_12 rfl ?_
      refine J_if_lt (pc := 13) (tgt := 28) dX5_hasCell_13 (by decide) ?_ ?_
      · refine J_iconst (pc := 28) (v := (0 : Int32)) dX5_hasCell_28 (by decide) ?_
        exact J_zret (pc := 29) rfl dX5_hasCell_29
      · refine J_iload_n (pc := 16) (x := x2) dX5_hasCell_16 rfl ?_
        refine J_aload_n (pc := 17) (x := a0) dX5_hasCell_17 rfl ?_
        refine J_get (pc := 18) (t := 5) (k := 1) (.int (I a0 1)) o0 (by decide) rfl ingX5 (by decide) wd_91 rfl dX5_hasCell_18 ?_
        refine J_icmp_ge (pc := 21) (tgt := 28) dX5_hasCell_21 (by decide) ?_ ?_
        · refine J_iconst (pc := 28) (v := (0 : Int32)) dX5_hasCell_28 (by decide) ?_
          exact J_zret (pc := 29) rfl dX5_hasCell_29
        · refine J_iconst (pc := 24) (v := (1 : Int32)) dX5_hasCell_24 (by decide) ?_
          refine J_goto (pc := 25) (tgt := 29) dX5_hasCell_25 (by decide) ?_
          exact J_zret (pc := 29) rfl dX5_hasCell_29
abbrev mu_X5_cellAt (G : Gt) : Mt (Int32 × Mem) := mi G cX5_cellAt 3 yX5_cellAt.cls (some .int) 0 0
def f_X5_cellAt (a0 : Nat) (x1 : Int32) (x2 : Int32) (I : Mem) : Option (Int32 × Mem) :=
  some (((x2 <<< ((I a0 2) &&& 31)) + x1), I)
set_option maxRecDepth 100000 in
theorem c_X5_cellAt {G : Gt} (hG : Gok G) (hn : Gn G) (a0 : Nat) (x1 : Int32) (x2 : Int32) (o0 : ok G a0 5) (I : Mem) : Cti G yX5_cellAt cX5_cellAt 3 (some .int) 0 0 [.ref a0, .int x1, .int x2] I (f_X5_cellAt a0 x1 x2 I) := by
  refine Cti.of (ls := [some (.ref a0), some (.int x1), some (.int x2)]) 0 hG (by decide) rfl (Nat.le_of_ble_eq_true rfl) ?_
  unfold f_X5_cellAt
  refine J_iload_n (pc := 0) (x := x2) dX5_cellAt_0 rfl ?_
  refine J_aload_n (pc := 1) (x := a0) dX5_cellAt_1 rfl ?_
  refine J_get (pc := 2) (t := 5) (k := 2) (.int (I a0 2)) o0 (by decide) rfl ingX5 (by decide) wd_85 rfl dX5_cellAt_2 ?_
  refine J_ishl (pc := 5) dX5_cellAt_5 ?_
  refine J_iload_n (pc := 6) (x := x1) dX5_cellAt_6 rfl ?_
  refine J_iadd (pc := 7) dX5_cellAt_7 ?_
  exact J_iret (pc := 8) dX5_cellAt_8
abbrev mu_X5_behind (G : Gt) : Mt (Int32 × Mem) := mi G cX5_behind 1 yX5_behind.cls (some .int) 0 0
def f_X5_behind (x0 : Int32) (I : Mem) : Option (Int32 × Mem) :=
  (if (x0 - x0 / (2 : Int32) * (2 : Int32)) = (1 : Int32) then some ((x0 + (1 : Int32)), I) else some ((x0 - (1 : Int32)), I))
set_option maxRecDepth 100000 in
theorem c_X5_behind {G : Gt} (hG : Gok G) (hn : Gn G) (x0 : Int32) (I : Mem) : Cti G yX5_behind cX5_behind 1 (some .int) 0 0 [.int x0] I (f_X5_behind x0 I) := by
  refine Cti.of (ls := [some (.int x0)]) 0 hG (by decide) rfl (Nat.le_of_ble_eq_true rfl) ?_
  unfold f_X5_behind
  refine J_iload_n (pc := 0) (x := x0) dX5_behind_0 rfl ?_
  refine J_iconst (pc := 1) (v := (2 : Int32)) dX5_behind_1 (by decide) ?_
  refine J_irem (pc := 2) dX5_behind_2 (by decide) ?_
  refine J_iconst (pc := 3) (v := (1 : Int32)) dX5_behind_3 (by decide) ?_
  refine J_icmp_ne (pc := 4) (tgt := 13) dX5_behind_4 (by decide) ?_ ?_
  · refine J_iload_n (pc := 7) (x := x0) dX5_behind_7 rfl ?_
    refine J_iconst (pc := 8) (v := (1 : Int32)) dX5_behind_8 (by decide) ?_
    refine J_iadd (pc := 9) dX5_behind_9 ?_
    refine J_goto (pc := 10) (tgt := 16) dX5_behind_10 (by decide) ?_
    exact J_iret (pc := 16) dX5_behind_16
  · refine J_iload_n (pc := 13) (x := x0) dX5_behind_13 rfl ?_
    refine J_iconst (pc := 14) (v := (1 : Int32)) dX5_behind_14 (by decide) ?_
    refine J_isub (pc := 15) dX5_behind_15 ?_
    exact J_iret (pc := 16) dX5_behind_16
abbrev mu_X5_pageOn (G : Gt) : Mt (Int32 × Mem) := mi G cX5_pageOn 5 yX5_pageOn.cls (some .int) 1 22
def f_X5_pageOn (a0 : Nat) (x1 : Int32) (x2 : Int32) (x3 : Int32) (I : Mem) : Option (Int32 × Mem) :=
  bI (f_X5_cellAt a0 x2 x3 I) fun r2 I1 => ck (inb r2 16) <| (if x1 = 0 then some ((I1 (a0 + 1) (tn r2)), I1) else bI (f_X5_behind (I1 (a0 + 1) (tn r2)) I1) fun r5 I4 => some (r5, I4))
set_option maxRecDepth 100000 in
theorem c_X5_pageOn {G : Gt} (hG : Gok G) (hn : Gn G) (a0 : Nat) (x1 : Int32) (x2 : Int32) (x3 : Int32) (o0 : ok G a0 5) (I : Mem) : Cti G yX5_pageOn cX5_pageOn 5 (some .int) 1 22 [.ref a0, .int x1, .int x2, .int x3] I (f_X5_pageOn a0 x1 x2 x3 I) := by
  refine Cti.of (ls := [some (.ref a0), some (.int x1), some (.int x2), some (.int x3), none]) 1 hG (by decide) rfl (Nat.le_of_ble_eq_true rfl) ?_
  unfold f_X5_pageOn
  refine J_aload_n (pc := 0) (x := a0) dX5_pageOn_0 rfl ?_
  refine J_get (pc := 1) (t := 5) (k := 3) (.ref (a0 + 1)) o0 (by decide) rfl ingX5 (by decide) wd_140 rfl dX5_pageOn_1 ?_
  refine J_aload_n (pc := 4) (x := a0) dX5_pageOn_4 rfl ?_
  refine J_iload_n (pc := 5) (x := x2) dX5_pageOn_5 rfl ?_
  refine J_iload_n (pc := 6) (x := x3) dX5_pageOn_6 rfl ?_
  refine J_callVi (pc := 7) (t := 5) (as := [.int x2, .int x3]) (st := [.ref (a0 + 1)]) (c_X5_cellAt hG hn a0 x2 x3 o0 I) o0 (by decide) rfl (cw_RX5_84 rfl) wd_293 wd_292 rfl ⟨Nat.le_of_ble_eq_true rfl, Nat.le_of_ble_eq_true rfl, Nat.le_of_ble_eq_true rfl, Nat.le_of_ble_eq_true rfl⟩ (Nat.le_of_ble_eq_true rfl) rfl dX5_pageOn_7 (fun r2 I1 => ?_)
  refine J_ck (fun hc3 => ?_)
  refine J_ild (pc := 10) (t := 18) (k := (tn r2)) (okf_5_1 hn o0) iT_18 (inb_in hc3) rfl dX5_pageOn_10 ?_
  refine J_istore (pc := 11) (ls' := [some (.ref a0), some (.int x1), some (.int x2), some (.int x3), some (.int (I1 (a0 + 1) (tn r2)))]) dX5_pageOn_11 (Nat.le_of_ble_eq_true rfl) rfl rfl ?_
  refine J_iload_n (pc := 13) (x := x1) dX5_pageOn_13 rfl ?_
  refine J_if_ne (pc := 14) (tgt := 22) dX5_pageOn_14 (by decide) ?_ ?_
  · refine J_iload (pc := 17) (x := (I1 (a0 + 1) (tn r2))) dX5_pageOn_17 rfl ?_
    refine J_goto (pc := 19) (tgt := 27) dX5_pageOn_19 (by decide) ?_
    exact J_iret (pc := 27) dX5_pageOn_27
  · refine J_iload (pc := 22) (x := (I1 (a0 + 1) (tn r2))) dX5_pageOn_22 rfl ?_
    refine J_callSi (pc := 24) (as := [.int (I1 (a0 + 1) (tn r2))]) (st := []) (c_X5_behind hG hn (I1 (a0 + 1) (tn r2)) I1) (cw_RX5_87 rfl) wd_296 rfl ⟨Nat.le_of_ble_eq_true rfl, Nat.le_of_ble_eq_true rfl, Nat.le_of_ble_eq_true rfl, Nat.le_of_ble_eq_true rfl⟩ (Nat.le_of_ble_eq_true rfl) rfl dX5_pageOn_24 (fun r5 I4 => ?_)
    exact J_iret (pc := 27) dX5_pageOn_27
abbrev mu_X8_page (G : Gt) : Mt (Int32 × Mem) := mi G cX8_page 5 yX8_page.cls (some .int) 2 46
def f_X8_page (x1 : Int32) (x2 : Int32) (x3 : Int32) (x4 : Int32) (I : Mem) : Option (Int32 × Mem) :=
  bI (f_X8_isScheme x1 I) fun r2 I1 => (if r2 = 0 then some ((-1 : Int32), I1) else bI (f_X8_isSide x2 I1) fun r4 I3 => (if r4 = 0 then some ((-1 : Int32), I3) else ck (inb x1 4) <| bI (f_X5_hasCell (54 + 4 * (tn x1)) x3 x4 I3) fun r7 I6 => (if r7 = 0 then some ((-1 : Int32), I6) else ck (inb x1 4) <| bI (f_X5_pageOn (54 + 4 * (tn x1)) x2 x3 x4 I6) fun r10 I9 => some (r10, I9))))
set_option maxRecDepth 100000 in
theorem c_X8_page {G : Gt} (hG : Gok G) (hn : Gn G) (x1 : Int32) (x2 : Int32) (x3 : Int32) (x4 : Int32) (I : Mem) : Cti G yX8_page cX8_page 5 (some .int) 2 46 [.ref 0, .int x1, .int x2, .int x3, .int x4] I (f_X8_page x1 x2 x3 x4 I) := by
  refine Cti.of (ls := [some (.ref 0), some (.int x1), some (.int x2), some (.int x3), some (.int x4)]) 0 hG (by decide) rfl (Nat.le_of_ble_eq_true rfl) ?_
  unfold f_X8_page
  refine J_aload_n (pc := 0) (x := 0) dX8_page_0 rfl ?_
  refine J_iload_n (pc := 1) (x := x1) dX8_page_1 rfl ?_
  refine J_callVi (pc := 2) (t := 8) (as := [.int x1]) (st := []) (c_X8_isScheme hG hn x1 I) (ok_c hn 0 (by decide) rfl) (by decide) rfl (cw_RX8_104 rfl) wd_257 wd_256 rfl ⟨Nat.le_of_ble_eq_true rfl, Nat.le_of_ble_eq_true rfl, Nat.le_of_ble_eq_true rfl, Nat.le_of_ble_eq_true rfl⟩ (Nat.le_of_ble_eq_true rfl) rfl dX8_page_2 (fun r2 I1 => ?_)
  refine J_if_eq (pc := 5) (tgt := 30) dX8_page_5 (by decide) ?_ ?_
  · refine J_iconst (pc := 30) (v := (-1 : Int32)) dX8_page_30 (by decide) ?_
    exact J_iret (pc := 31) dX8_page_31
  · refine J_iload_n (pc := 8) (x := x2) dX8_page_8 rfl ?_
    refine J_callSi (pc := 9) (as := [.int x2]) (st := []) (c_X8_isSide hG hn x2 I1) (cw_RX8_158 rfl) wd_285 rfl ⟨Nat.le_of_ble_eq_true rfl, Nat.le_of_ble_eq_true rfl, Nat.le_of_ble_eq_true rfl, Nat.le_of_ble_eq_true rfl⟩ (Nat.le_of_ble_eq_true rfl) rfl dX8_page_9 (fun r4 I3 => ?_)
    refine J_if_eq (pc := 12) (tgt := 30) dX8_page_12 (by decide) ?_ ?_
    · refine J_iconst (pc := 30) (v := (-1 : Int32)) dX8_page_30 (by decide) ?_
      exact J_iret (pc := 31) dX8_page_31
    · refine J_aload_n (pc := 15) (x := 0) dX8_page_15 rfl ?_
      refine J_get (pc := 16) (t := 8) (k := 4) (.ref 53) (ok_c hn 0 (by decide) rfl) (by decide) rfl ingX8 (by decide) wd_82 rfl dX8_page_16 ?_
      refine J_iload_n (pc := 19) (x := x1) dX8_page_19 rfl ?_
      refine J_ck (fun hc5 => ?_)
      refine J_sald (pc := 20) (ok_c hn 53 (by decide) rfl) (inb_in hc5) dX8_page_20 ?_
      refine J_iload_n (pc := 21) (x := x3) dX8_page_21 rfl ?_
      refine J_iload (pc := 22) (x := x4) dX8_page_22 rfl ?_
      refine J_callVi (pc := 24) (t := 5) (as := [.int x3, .int x4]) (st := []) (c_X5_hasCell hG hn (54 + 4 * (tn x1)) x3 x4 (ok_sheet hn hc5) I3) (ok_sheet hn hc5) (by decide) rfl (cw_RX8_161 rfl) wd_289 wd_288 rfl ⟨Nat.le_of_ble_eq_true rfl, Nat.le_of_ble_eq_true rfl, Nat.le_of_ble_eq_true rfl, Nat.le_of_ble_eq_true rfl⟩ (Nat.le_of_ble_eq_true rfl) rfl dX8_page_24 (fun r7 I6 => ?_)
      refine J_if_ne (pc := 27) (tgt := 32) dX8_page_27 (by decide) ?_ ?_
      · refine J_iconst (pc := 30) (v := (-1 : Int32)) dX8_page_30 (by decide) ?_
        exact J_iret (pc := 31) dX8_page_31
      · refine J_aload_n (pc := 32) (x := 0) dX8_page_32 rfl ?_
        refine J_get (pc := 33) (t := 8) (k := 4) (.ref 53) (ok_c hn 0 (by decide) rfl) (by decide) rfl ingX8 (by decide) wd_82 rfl dX8_page_33 ?_
        refine J_iload_n (pc := 36) (x := x1) dX8_page_36 rfl ?_
        refine J_ck (fun hc8 => ?_)
        refine J_sald (pc := 37) (ok_c hn 53 (by decide) rfl) (inb_in hc8) dX8_page_37 ?_
        refine J_iload_n (pc := 38) (x := x2) dX8_page_38 rfl ?_
        refine J_iload_n (pc := 39) (x := x3) dX8_page_39 rfl ?_
        refine J_iload (pc := 40) (x := x4) dX8_page_40 rfl ?_
        refine J_callVi (pc := 42) (t := 5) (as := [.int x2, .int x3, .int x4]) (st := []) (c_X5_pageOn hG hn (54 + 4 * (tn x1)) x2 x3 x4 (ok_sheet hn hc8) I6) (ok_sheet hn hc8) (by decide) rfl (cw_RX8_165 rfl) wd_300 wd_299 rfl ⟨Nat.le_of_ble_eq_true rfl, Nat.le_of_ble_eq_true rfl, Nat.le_of_ble_eq_true rfl, Nat.le_of_ble_eq_true rfl⟩ (Nat.le_of_ble_eq_true rfl) rfl dX8_page_42 (fun r10 I9 => ?_)
        exact J_iret (pc := 45) dX8_page_45
abbrev mu_X5_cellOf (G : Gt) : Mt (Int32 × Mem) := mi G cX5_cellOf 3 yX5_cellOf.cls (some .int) 2 41
def b_X5_cellOf_2 (K33 : Int32 → Mem → Option (Int32 × Mem)) (K41 : Mem → Option (Int32 × Mem)) (R : Nat → Int32 → Int32 → Mem → Option (Int32 × Mem)) (a0 : Nat) (x1 : Int32) (x2 : Int32) (I : Mem) : Option (Int32 × Mem) :=
  bI (f_X5_leaves a0 I) fun r2 I1 => (if r2 ≤ x2 then K41 I1 else ck (inb x2 16) <| (if (I1 (a0 + 1) (tn x2)) = x1 then K33 x2 I1 else ck (inb x2 16) <| bI (f_X5_behind x1 I1) fun r6 I5 => (if (I1 (a0 + 1) (tn x2)) = r6 then K33 x2 I5 else R a0 x1 (x2 + (1 : Int32)) I5)))
def l_X5_cellOf_2 (K33 : Int32 → Mem → Option (Int32 × Mem)) (K41 : Mem → Option (Int32 × Mem)) : Nat → Nat → Int32 → Int32 → Mem → Option (Int32 × Mem) := fx (b_X5_cellOf_2 K33 K41) (fun _ _ _ _ => none)
def f_X5_cellOf (a0 : Nat) (x1 : Int32) (I : Mem) : Option (Int32 × Mem) :=
  l_X5_cellOf_2 (fun (z7 : Int32) I8 => some (z7, I8)) (fun I9 => some ((0 : Int32), I9)) fuel a0 x1 (0 : Int32) I
set_option maxRecDepth 100000 in
theorem tb_X5_cellOf_2 {G : Gt} (hG : Gok G) (hn : Gn G) {K33 : Int32 → Mem → Option (Int32 × Mem)} (hK33 : ∀ (x2 : Int32) (I : Mem), J G (mu_X5_cellOf G) 33 [none, none, some (.int x2)] [] I (K33 x2 I)) {K41 : Mem → Option (Int32 × Mem)} (hK41 : ∀ (I : Mem), J G (mu_X5_cellOf G) 41 [none, none, none] [] I (K41 I)) {R : Nat → Int32 → Int32 → Mem → Option (Int32 × Mem)} (hR : ∀ (a0 : Nat) (x1 : Int32) (x2 : Int32) (o0 : ok G a0 5) (I : Mem), J G (mu_X5_cellOf G) 2 [some (.ref a0), some (.int x1), some (.int x2)] [] I (R a0 x1 x2 I)) (a0 : Nat) (x1 : Int32) (x2 : Int32) (o0 : ok G a0 5) (I : Mem) : J G (mu_X5_cellOf G) 2 [some (.ref a0), some (.int x1), some (.int x2)] [] I (b_X5_cellOf_2 K33 K41 R a0 x1 x2 I) := by
  unfold b_X5_cellOf_2
  refine J_iload_n (pc := 2) (x := x2) dX5_cellOf_2 rfl ?_
  refine J_aload_n (pc := 3) (x := a0) dX5_cellOf_3 rfl ?_
  refine J_callVi (pc := 4) (t := 5) (as := []) (st := [.int x2]) (c_X5_leaves hG hn a0 o0 I) o0 (by decide) rfl (cw_RX5_43 rfl) wd_97 wd_96 rfl ⟨Nat.le_of_ble_eq_true rfl, Nat.le_of_ble_eq_true rfl, Nat.le_of_ble_eq_true rfl, Nat.le_of_ble_eq_true rfl⟩ (Nat.le_of_ble_eq_true rfl) rfl dX5_cellOf_4 (fun r2 I1 => ?_)
  refine J_icmp_ge (pc := 7) (tgt := 41) dX5_cellOf_7 (by decide) ?_ ?_
  · refine J_weak (ls' := [none, none, none]) trivial ?_
    exact hK41 I1
  · refine J_aload_n (pc := 10) (x := a0) dX5_cellOf_10 rfl ?_
    refine J_get (pc := 11) (t := 5) (k := 3) (.ref (a0 + 1)) o0 (by decide) rfl ingX5 (by decide) wd_140 rfl dX5_cellOf_11 ?_
    refine J_iload_n (pc := 14) (x := x2) dX5_cellOf_14 rfl ?_
    refine J_ck (fun hc3 => ?_)
    refine J_ild (pc := 15) (t := 18) (k := (tn x2)) (okf_5_1 hn o0) iT_18 (inb_in hc3) rfl dX5_cellOf_15 ?_
    refine J_iload_n (pc := 16) (x := x1) dX5_cellOf_16 rfl ?_
    refine J_icmp_eq (pc := 17) (tgt := 33) dX5_cellOf_17 (by decide) ?_ ?_
    · refine J_weak (ls' := [none, none, some (.int x2)]) ⟨rfl, trivial⟩ ?_
      exact hK33 x2 I1
    · refine J_aload_n (pc := 20) (x := a0) dX5_cellOf_20 rfl ?_
      refine J_get (pc := 21) (t := 5) (k := 3) (.ref (a0 + 1)) o0 (by decide) rfl ingX5 (by decide) wd_140 rfl dX5_cellOf_21 ?_
      refine J_iload_n (pc := 24) (x := x2) dX5_cellOf_24 rfl ?_
      refine J_ck (fun hc4 => ?_)
      refine J_ild (pc := 25) (t := 18) (k := (tn x2)) (okf_5_1 hn o0) iT_18 (inb_in hc4) rfl dX5_cellOf_25 ?_
      refine J_iload_n (pc := 26) (x := x1) dX5_cellOf_26 rfl ?_
      refine J_callSi (pc := 27) (as := [.int x1]) (st := [.int (I1 (a0 + 1) (tn x2))]) (c_X5_behind hG hn x1 I1) (cw_RX5_87 rfl) wd_296 rfl ⟨Nat.le_of_ble_eq_true rfl, Nat.le_of_ble_eq_true rfl, Nat.le_of_ble_eq_true rfl, Nat.le_of_ble_eq_true rfl⟩ (Nat.le_of_ble_eq_true rfl) rfl dX5_cellOf_27 (fun r6 I5 => ?_)
      refine J_icmp_ne (pc := 30) (tgt := 35) dX5_cellOf_30 (by decide) ?_ ?_
      · refine J_weak (ls' := [none, none, some (.int x2)]) ⟨rfl, trivial⟩ ?_
        exact hK33 x2 I5
      · refine J_iinc (pc := 35) (d := (1 : Int32)) (ls' := [some (.ref a0), some (.int x1), some (.int (x2 + (1 : Int32)))]) dX5_cellOf_35 (by decide) rfl (Nat.le_of_ble_eq_true rfl) rfl rfl ?_
        refine J_goto (pc := 38) (tgt := 2) dX5_cellOf_38 (by decide) ?_
        exact hR a0 x1 (x2 + (1 : Int32)) o0 I5
theorem tl_X5_cellOf_2 {G : Gt} (hG : Gok G) (hn : Gn G) {K33 : Int32 → Mem → Option (Int32 × Mem)} (hK33 : ∀ (x2 : Int32) (I : Mem), J G (mu_X5_cellOf G) 33 [none, none, some (.int x2)] [] I (K33 x2 I)) {K41 : Mem → Option (Int32 × Mem)} (hK41 : ∀ (I : Mem), J G (mu_X5_cellOf G) 41 [none, none, none] [] I (K41 I)) (n : Nat) : ∀ (a0 : Nat) (x1 : Int32) (x2 : Int32) (o0 : ok G a0 5) (I : Mem), J G (mu_X5_cellOf G) 2 [some (.ref a0), some (.int x1), some (.int x2)] [] I (l_X5_cellOf_2 K33 K41 n a0 x1 x2 I) := by
  induction n with
  | zero => intro a0 x1 x2 o0 I; exact J_none
  | succ n ih => intro a0 x1 x2 o0 I; exact tb_X5_cellOf_2 hG hn hK33 hK41 ih a0 x1 x2 o0 I
set_option maxRecDepth 100000 in
theorem c_X5_cellOf {G : Gt} (hG : Gok G) (hn : Gn G) (a0 : Nat) (x1 : Int32) (o0 : ok G a0 5) (I : Mem) : Cti G yX5_cellOf cX5_cellOf 3 (some .int) 2 41 [.ref a0, .int x1] I (f_X5_cellOf a0 x1 I) := by
  refine Cti.of (ls := [some (.ref a0), some (.int x1), none]) 1 hG (by decide) rfl (Nat.le_of_ble_eq_true rfl) ?_
  unfold f_X5_cellOf
  refine J_iconst (pc := 0) (v := (0 : Int32)) dX5_cellOf_0 (by decide) ?_
  refine J_istore_n (pc := 1) (ls' := [some (.ref a0), some (.int x1), some (.int (0 : Int32))]) dX5_cellOf_1 (Nat.le_of_ble_eq_true rfl) rfl rfl ?_
  refine tl_X5_cellOf_2 hG hn (fun z7 I8 => ?_) (fun I9 => ?_) fuel a0 x1 (0 : Int32) o0 I
  · refine J_iload_n (pc := 33) (x := z7) dX5_cellOf_33 rfl ?_
    exact J_iret (pc := 34) dX5_cellOf_34
  · refine J_iconst (pc := 41) (v := (0 : Int32)) dX5_cellOf_41 (by decide) ?_
    exact J_iret (pc := 42) dX5_cellOf_42
abbrev mu_X5_sideOf (G : Gt) : Mt (Int32 × Mem) := mi G cX5_sideOf 2 yX5_sideOf.cls (some .int) 3 63
def f_X5_sideOf (a0 : Nat) (x1 : Int32) (I : Mem) : Option (Int32 × Mem) :=
  bI (f_X5_cellOf a0 x1 I) fun r2 I1 => ck (inb r2 16) <| (if (I1 (a0 + 1) (tn r2)) = x1 then some ((0 : Int32), I1) else some ((1 : Int32), I1))
set_option maxRecDepth 100000 in
theorem c_X5_sideOf {G : Gt} (hG : Gok G) (hn : Gn G) (a0 : Nat) (x1 : Int32) (o0 : ok G a0 5) (I : Mem) : Cti G yX5_sideOf cX5_sideOf 2 (some .int) 3 63 [.ref a0, .int x1] I (f_X5_sideOf a0 x1 I) := by
  refine Cti.of (ls := [some (.ref a0), some (.int x1)]) 0 hG (by decide) rfl (Nat.le_of_ble_eq_true rfl) ?_
  unfold f_X5_sideOf
  refine J_aload_n (pc := 0) (x := a0) dX5_sideOf_0 rfl ?_
  refine J_get (pc := 1) (t := 5) (k := 3) (.ref (a0 + 1)) o0 (by decide) rfl ingX5 (by decide) wd_140 rfl dX5_sideOf_1 ?_
  refine J_aload_n (pc := 4) (x := a0) dX5_sideOf_4 rfl ?_
  refine J_iload_n (pc := 5) (x := x1) dX5_sideOf_5 rfl ?_
  refine J_callVi (pc := 6) (t := 5) (as := [.int x1]) (st := [.ref (a0 + 1)]) (c_X5_cellOf hG hn a0 x1 o0 I) o0 (by decide) rfl (cw_RX5_90 rfl) wd_304 wd_303 rfl ⟨Nat.le_of_ble_eq_true rfl, Nat.le_of_ble_eq_true rfl, Nat.le_of_ble_eq_true rfl, Nat.le_of_ble_eq_true rfl⟩ (Nat.le_of_ble_eq_true rfl) rfl dX5_sideOf_6 (fun r2 I1 => ?_)
  refine J_ck (fun hc3 => ?_)
  refine J_ild (pc := 9) (t := 18) (k := (tn r2)) (okf_5_1 hn o0) iT_18 (inb_in hc3) rfl dX5_sideOf_9 ?_
  refine J_iload_n (pc := 10) (x := x1) dX5_sideOf_10 rfl ?_
  refine J_icmp_ne (pc := 11) (tgt := 18) dX5_sideOf_11 (by decide) ?_ ?_
  · refine J_iconst (pc := 14) (v := (0 : Int32)) dX5_sideOf_14 (by decide) ?_
    refine J_goto (pc := 15) (tgt := 19) dX5_sideOf_15 (by decide) ?_
    exact J_iret (pc := 19) dX5_sideOf_19
  · refine J_iconst (pc := 18) (v := (1 : Int32)) dX5_sideOf_18 (by decide) ?_
    exact J_iret (pc := 19) dX5_sideOf_19
abbrev mu_X5_columnOf (G : Gt) : Mt (Int32 × Mem) := mi G cX5_columnOf 2 yX5_columnOf.cls (some .int) 3 63
def f_X5_columnOf (a0 : Nat) (x1 : Int32) (I : Mem) : Option (Int32 × Mem) :=
  bI (f_X5_cellOf a0 x1 I) fun r2 I1 => bI (f_X5_columnAt a0 r2 I1) fun r4 I3 => some (r4, I3)
set_option maxRecDepth 100000 in
theorem c_X5_columnOf {G : Gt} (hG : Gok G) (hn : Gn G) (a0 : Nat) (x1 : Int32) (o0 : ok G a0 5) (I : Mem) : Cti G yX5_columnOf cX5_columnOf 2 (some .int) 3 63 [.ref a0, .int x1] I (f_X5_columnOf a0 x1 I) := by
  refine Cti.of (ls := [some (.ref a0), some (.int x1)]) 0 hG (by decide) rfl (Nat.le_of_ble_eq_true rfl) ?_
  unfold f_X5_columnOf
  refine J_aload_n (pc := 0) (x := a0) dX5_columnOf_0 rfl ?_
  refine J_aload_n (pc := 1) (x := a0) dX5_columnOf_1 rfl ?_
  refine J_iload_n (pc := 2) (x := x1) dX5_columnOf_2 rfl ?_
  refine J_callVi (pc := 3) (t := 5) (as := [.int x1]) (st := [.ref a0]) (c_X5_cellOf hG hn a0 x1 o0 I) o0 (by decide) rfl (cw_RX5_90 rfl) wd_304 wd_303 rfl ⟨Nat.le_of_ble_eq_true rfl, Nat.le_of_ble_eq_true rfl, Nat.le_of_ble_eq_true rfl, Nat.le_of_ble_eq_true rfl⟩ (Nat.le_of_ble_eq_true rfl) rfl dX5_columnOf_3 (fun r2 I1 => ?_)
  refine J_callVi (pc := 6) (t := 5) (as := [.int r2]) (st := []) (c_X5_columnAt hG hn a0 r2 o0 I1) o0 (by decide) rfl (cw_RX5_47 rfl) wd_102 wd_101 rfl ⟨Nat.le_of_ble_eq_true rfl, Nat.le_of_ble_eq_true rfl, Nat.le_of_ble_eq_true rfl, Nat.le_of_ble_eq_true rfl⟩ (Nat.le_of_ble_eq_true rfl) rfl dX5_columnOf_6 (fun r4 I3 => ?_)
  exact J_iret (pc := 9) dX5_columnOf_9
abbrev mu_X5_rowOf (G : Gt) : Mt (Int32 × Mem) := mi G cX5_rowOf 2 yX5_rowOf.cls (some .int) 3 63
def f_X5_rowOf (a0 : Nat) (x1 : Int32) (I : Mem) : Option (Int32 × Mem) :=
  bI (f_X5_cellOf a0 x1 I) fun r2 I1 => bI (f_X5_rowAt a0 r2 I1) fun r4 I3 => some (r4, I3)
set_option maxRecDepth 100000 in
theorem c_X5_rowOf {G : Gt} (hG : Gok G) (hn : Gn G) (a0 : Nat) (x1 : Int32) (o0 : ok G a0 5) (I : Mem) : Cti G yX5_rowOf cX5_rowOf 2 (some .int) 3 63 [.ref a0, .int x1] I (f_X5_rowOf a0 x1 I) := by
  refine Cti.of (ls := [some (.ref a0), some (.int x1)]) 0 hG (by decide) rfl (Nat.le_of_ble_eq_true rfl) ?_
  unfold f_X5_rowOf
  refine J_aload_n (pc := 0) (x := a0) dX5_rowOf_0 rfl ?_
  refine J_aload_n (pc := 1) (x := a0) dX5_rowOf_1 rfl ?_
  refine J_iload_n (pc := 2) (x := x1) dX5_rowOf_2 rfl ?_
  refine J_callVi (pc := 3) (t := 5) (as := [.int x1]) (st := [.ref a0]) (c_X5_cellOf hG hn a0 x1 o0 I) o0 (by decide) rfl (cw_RX5_90 rfl) wd_304 wd_303 rfl ⟨Nat.le_of_ble_eq_true rfl, Nat.le_of_ble_eq_true rfl, Nat.le_of_ble_eq_true rfl, Nat.le_of_ble_eq_true rfl⟩ (Nat.le_of_ble_eq_true rfl) rfl dX5_rowOf_3 (fun r2 I1 => ?_)
  refine J_callVi (pc := 6) (t := 5) (as := [.int r2]) (st := []) (c_X5_rowAt hG hn a0 r2 o0 I1) o0 (by decide) rfl (cw_RX5_51 rfl) wd_106 wd_105 rfl ⟨Nat.le_of_ble_eq_true rfl, Nat.le_of_ble_eq_true rfl, Nat.le_of_ble_eq_true rfl, Nat.le_of_ble_eq_true rfl⟩ (Nat.le_of_ble_eq_true rfl) rfl dX5_rowOf_6 (fun r4 I3 => ?_)
  exact J_iret (pc := 9) dX5_rowOf_9
abbrev mu_X5_isOverturned (G : Gt) : Mt (Int32 × Mem) := mi G cX5_isOverturned 2 yX5_isOverturned.cls (some .int) 3 63
def f_X5_isOverturned (a0 : Nat) (x1 : Int32) (I : Mem) : Option (Int32 × Mem) :=
  bI (f_X5_cellOf a0 x1 I) fun r2 I1 => ck (inb r2 16) <| some ((I1 (a0 + 2) (tn r2)), I1)
set_option maxRecDepth 100000 in
theorem c_X5_isOverturned {G : Gt} (hG : Gok G) (hn : Gn G) (a0 : Nat) (x1 : Int32) (o0 : ok G a0 5) (I : Mem) : Cti G yX5_isOverturned cX5_isOverturned 2 (some .int) 3 63 [.ref a0, .int x1] I (f_X5_isOverturned a0 x1 I) := by
  refine Cti.of (ls := [some (.ref a0), some (.int x1)]) 0 hG (by decide) rfl (Nat.le_of_ble_eq_true rfl) ?_
  unfold f_X5_isOverturned
  refine J_aload_n (pc := 0) (x := a0) dX5_isOverturned_0 rfl ?_
  refine J_get (pc := 1) (t := 5) (k := 4) (.ref (a0 + 2)) o0 (by decide) rfl ingX5 (by decide) wd_145 rfl dX5_isOverturned_1 ?_
  refine J_aload_n (pc := 4) (x := a0) dX5_isOverturned_4 rfl ?_
  refine J_iload_n (pc := 5) (x := x1) dX5_isOverturned_5 rfl ?_
  refine J_callVi (pc := 6) (t := 5) (as := [.int x1]) (st := [.ref (a0 + 2)]) (c_X5_cellOf hG hn a0 x1 o0 I) o0 (by decide) rfl (cw_RX5_90 rfl) wd_304 wd_303 rfl ⟨Nat.le_of_ble_eq_true rfl, Nat.le_of_ble_eq_true rfl, Nat.le_of_ble_eq_true rfl, Nat.le_of_ble_eq_true rfl⟩ (Nat.le_of_ble_eq_true rfl) rfl dX5_isOverturned_6 (fun r2 I1 => ?_)
  refine J_ck (fun hc3 => ?_)
  refine J_ild (pc := 9) (t := 19) (k := (tn r2)) (okf_5_2 hn o0) iT_19 (inb_in hc3) rfl dX5_isOverturned_9 ?_
  exact J_iret (pc := 10) dX5_isOverturned_10
abbrev mu_X5_rightOf (G : Gt) : Mt (Int32 × Mem) := mi G cX5_rightOf 5 yX5_rightOf.cls (some .int) 4 84
def j_X5_rightOf_20 (a0 : Nat) (x1 : Int32) (x2 : Int32) (y0 : Int32) (y1 : Int32) (I : Mem) : Option (Int32 × Mem) :=
  bI (f_X5_rowOf a0 x1 I) fun r6 I5 => bI (f_X5_hasCell a0 (y0 + y1) r6 I5) fun r8 I7 => (if r8 = 0 then some ((-4 : Int32), I7) else bI (f_X5_pageOn a0 x2 (y0 + y1) r6 I7) fun r10 I9 => some (r10, I9))
def f_X5_rightOf (a0 : Nat) (x1 : Int32) (I : Mem) : Option (Int32 × Mem) :=
  bI (f_X5_sideOf a0 x1 I) fun r2 I1 => bI (f_X5_columnOf a0 x1 I1) fun r4 I3 => (if r2 = 0 then j_X5_rightOf_20 a0 x1 r2 r4 (1 : Int32) I3 else j_X5_rightOf_20 a0 x1 r2 r4 (-1 : Int32) I3)
set_option maxRecDepth 100000 in
theorem tj_X5_rightOf_20 {G : Gt} (hG : Gok G) (hn : Gn G) (a0 : Nat) (x1 : Int32) (x2 : Int32) (y0 : Int32) (y1 : Int32) (o0 : ok G a0 5) (I : Mem) : J G (mu_X5_rightOf G) 20 [some (.ref a0), some (.int x1), some (.int x2), none, none] [.int y1, .int y0] I (j_X5_rightOf_20 a0 x1 x2 y0 y1 I) := by
  unfold j_X5_rightOf_20
  refine J_iadd (pc := 20) dX5_rightOf_20 ?_
  refine J_istore_n (pc := 21) (ls' := [some (.ref a0), some (.int x1), some (.int x2), some (.int (y0 + y1)), none]) dX5_rightOf_21 (Nat.le_of_ble_eq_true rfl) rfl rfl ?_
  refine J_aload_n (pc := 22) (x := a0) dX5_rightOf_22 rfl ?_
  refine J_iload_n (pc := 23) (x := x1) dX5_rightOf_23 rfl ?_
  refine J_callVi (pc := 24) (t := 5) (as := [.int x1]) (st := []) (c_X5_rowOf hG hn a0 x1 o0 I) o0 (by decide) rfl (cw_RX5_99 rfl) wd_316 wd_315 rfl ⟨Nat.le_of_ble_eq_true rfl, Nat.le_of_ble_eq_true rfl, Nat.le_of_ble_eq_true rfl, Nat.le_of_ble_eq_true rfl⟩ (Nat.le_of_ble_eq_true rfl) rfl dX5_rightOf_24 (fun r6 I5 => ?_)
  refine J_istore (pc := 27) (ls' := [some (.ref a0), some (.int x1), some (.int x2), some (.int (y0 + y1)), some (.int r6)]) dX5_rightOf_27 (Nat.le_of_ble_eq_true rfl) rfl rfl ?_
  refine J_aload_n (pc := 29) (x := a0) dX5_rightOf_29 rfl ?_
  refine J_iload_n (pc := 30) (x := (y0 + y1)) dX5_rightOf_30 rfl ?_
  refine J_iload (pc := 31) (x := r6) dX5_rightOf_31 rfl ?_
  refine J_callVi (pc := 33) (t := 5) (as := [.int (y0 + y1), .int r6]) (st := []) (c_X5_hasCell hG hn a0 (y0 + y1) r6 o0 I5) o0 (by decide) rfl (cw_RX5_102 rfl) wd_289 wd_288 rfl ⟨Nat.le_of_ble_eq_true rfl, Nat.le_of_ble_eq_true rfl, Nat.le_of_ble_eq_true rfl, Nat.le_of_ble_eq_true rfl⟩ (Nat.le_of_ble_eq_true rfl) rfl dX5_rightOf_33 (fun r8 I7 => ?_)
  refine J_if_eq (pc := 36) (tgt := 50) dX5_rightOf_36 (by decide) ?_ ?_
  · refine J_bipush (pc := 50) (v := (-4 : Int32)) dX5_rightOf_50 (by decide) ?_
    exact J_iret (pc := 52) dX5_rightOf_52
  · refine J_aload_n (pc := 39) (x := a0) dX5_rightOf_39 rfl ?_
    refine J_iload_n (pc := 40) (x := x2) dX5_rightOf_40 rfl ?_
    refine J_iload_n (pc := 41) (x := (y0 + y1)) dX5_rightOf_41 rfl ?_
    refine J_iload (pc := 42) (x := r6) dX5_rightOf_42 rfl ?_
    refine J_callVi (pc := 44) (t := 5) (as := [.int x2, .int (y0 + y1), .int r6]) (st := []) (c_X5_pageOn hG hn a0 x2 (y0 + y1) r6 o0 I7) o0 (by decide) rfl (cw_RX5_106 rfl) wd_300 wd_299 rfl ⟨Nat.le_of_ble_eq_true rfl, Nat.le_of_ble_eq_true rfl, Nat.le_of_ble_eq_true rfl, Nat.le_of_ble_eq_true rfl⟩ (Nat.le_of_ble_eq_true rfl) rfl dX5_rightOf_44 (fun r10 I9 => ?_)
    refine J_goto (pc := 47) (tgt := 52) dX5_rightOf_47 (by decide) ?_
    exact J_iret (pc := 52) dX5_rightOf_52
set_option maxRecDepth 100000 in
theorem c_X5_rightOf {G : Gt} (hG : Gok G) (hn : Gn G) (a0 : Nat) (x1 : Int32) (o0 : ok G a0 5) (I : Mem) : Cti G yX5_rightOf cX5_rightOf 5 (some .int) 4 84 [.ref a0, .int x1] I (f_X5_rightOf a0 x1 I) := by
  refine Cti.of (ls := [some (.ref a0), some (.int x1), none, none, none]) 3 hG (by decide) rfl (Nat.le_of_ble_eq_true rfl) ?_
  unfold f_X5_rightOf
  refine J_aload_n (pc := 0) (x := a0) dX5_rightOf_0 rfl ?_
  refine J_iload_n (pc := 1) (x := x1) dX5_rightOf_1 rfl ?_
  refine J_callVi (pc := 2) (t := 5) (as := [.int x1]) (st := []) (c_X5_sideOf hG hn a0 x1 o0 I) o0 (by decide) rfl (cw_RX5_93 rfl) wd_308 wd_307 rfl ⟨Nat.le_of_ble_eq_true rfl, Nat.le_of_ble_eq_true rfl, Nat.le_of_ble_eq_true rfl, Nat.le_of_ble_eq_true rfl⟩ (Nat.le_of_ble_eq_true rfl) rfl dX5_rightOf_2 (fun r2 I1 => ?_)
  refine J_istore_n (pc := 5) (ls' := [some (.ref a0), some (.int x1), some (.int r2), none, none]) dX5_rightOf_5 (Nat.le_of_ble_eq_true rfl) rfl rfl ?_
  refine J_aload_n (pc := 6) (x := a0) dX5_rightOf_6 rfl ?_
  refine J_iload_n (pc := 7) (x := x1) dX5_rightOf_7 rfl ?_
  refine J_callVi (pc := 8) (t := 5) (as := [.int x1]) (st := []) (c_X5_columnOf hG hn a0 x1 o0 I1) o0 (by decide) rfl (cw_RX5_96 rfl) wd_312 wd_311 rfl ⟨Nat.le_of_ble_eq_true rfl, Nat.le_of_ble_eq_true rfl, Nat.le_of_ble_eq_true rfl, Nat.le_of_ble_eq_true rfl⟩ (Nat.le_of_ble_eq_true rfl) rfl dX5_rightOf_8 (fun r4 I3 => ?_)
  refine J_iload_n (pc := 11) (x := r2) dX5_rightOf_11 rfl ?_
  refine J_if_ne (pc := 12) (tgt := 19) dX5_rightOf_12 (by decide) ?_ ?_
  · refine J_iconst (pc := 15) (v := (1 : Int32)) dX5_rightOf_15 (by decide) ?_
    refine J_goto (pc := 16) (tgt := 20) dX5_rightOf_16 (by decide) ?_
    exact tj_X5_rightOf_20 hG hn a0 x1 r2 r4 (1 : Int32) o0 I3
  · refine J_iconst (pc := 19) (v := (-1 : Int32)) dX5_rightOf_19 (by decide) ?_
    exact tj_X5_rightOf_20 hG hn a0 x1 r2 r4 (-1 : Int32) o0 I3
abbrev mu_X8_where (G : Gt) : Mt (Int32 × Mem) := mi G cX8_where 5 yX8_where.cls (some .int) 5 108
def f_X8_where (x1 : Int32) (x2 : Int32) (x3 : Int32) (I : Mem) : Option (Int32 × Mem) :=
  bI (f_X8_isScheme x1 I) fun r2 I1 => (if r2 = 0 then some ((-1 : Int32), I1) else (if x2 < (1 : Int32) then some ((-1 : Int32), I1) else bI (f_X7_pagesOf x1 I1) fun r4 I3 => (if x2 ≤ r4 then ck (inb x1 4) <| (if x3 = (0 : Int32) then bI (f_X5_sideOf (54 + 4 * (tn x1)) x2 I3) fun r8 I7 => some (r8, I7) else (if x3 = (1 : Int32) then bI (f_X5_columnOf (54 + 4 * (tn x1)) x2 I3) fun r11 I10 => some (r11, I10) else (if x3 = (2 : Int32) then bI (f_X5_rowOf (54 + 4 * (tn x1)) x2 I3) fun r14 I13 => some (r14, I13) else (if x3 = (3 : Int32) then bI (f_X5_isOverturned (54 + 4 * (tn x1)) x2 I3) fun r17 I16 => some (r17, I16) else (if x3 = (4 : Int32) then bI (f_X5_behind x2 I3) fun r20 I19 => some (r20, I19) else (if x3 = (5 : Int32) then bI (f_X5_rightOf (54 + 4 * (tn x1)) x2 I3) fun r23 I22 => some (r23, I22) else some ((-1 : Int32), I3))))))) else some ((-1 : Int32), I3))))
set_option maxRecDepth 100000 in
theorem c_X8_where {G : Gt} (hG : Gok G) (hn : Gn G) (x1 : Int32) (x2 : Int32) (x3 : Int32) (I : Mem) : Cti G yX8_where cX8_where 5 (some .int) 5 108 [.ref 0, .int x1, .int x2, .int x3] I (f_X8_where x1 x2 x3 I) := by
  refine Cti.of (ls := [some (.ref 0), some (.int x1), some (.int x2), some (.int x3), none]) 1 hG (by decide) rfl (Nat.le_of_ble_eq_true rfl) ?_
  unfold f_X8_where
  refine J_aload_n (pc := 0) (x := 0) dX8_where_0 rfl ?_
  refine J_iload_n (pc := 1) (x := x1) dX8_where_1 rfl ?_
  refine J_callVi (pc := 2) (t := 8) (as := [.int x1]) (st := []) (c_X8_isScheme hG hn x1 I) (ok_c hn 0 (by decide) rfl) (by decide) rfl (cw_RX8_104 rfl) wd_257 wd_256 rfl ⟨Nat.le_of_ble_eq_true rfl, Nat.le_of_ble_eq_true rfl, Nat.le_of_ble_eq_true rfl, Nat.le_of_ble_eq_true rfl⟩ (Nat.le_of_ble_eq_true rfl) rfl dX8_where_2 (fun r2 I1 => ?_)
  refine J_if_eq (pc := 5) (tgt := 25) dX8_where_5 (by decide) ?_ ?_
  · refine J_iconst (pc := 25) (v := (-1 : Int32)) dX8_where_25 (by decide) ?_
    exact J_iret (pc := 26) dX8_where_26
  · refine J_iload_n (pc := 8) (x := x2) dX8_where_8 rfl ?_
    refine J_iconst (pc := 9) (v := (1 : Int32)) dX8_where_9 (by decide) ?_
    refine J_icmp_lt (pc := 10) (tgt := 25) dX8_where_10 (by decide) ?_ ?_
    · refine J_iconst (pc := 25) (v := (-1 : Int32)) dX8_where_25 (by decide) ?_
      exact J_iret (pc := 26) dX8_where_26
    · refine J_iload_n (pc := 13) (x := x2) dX8_where_13 rfl ?_
      refine J_aload_n (pc := 14) (x := 0) dX8_where_14 rfl ?_
      refine J_get (pc := 15) (t := 8) (k := 1) (.ref 3) (ok_c hn 0 (by decide) rfl) (by decide) rfl ingX8 (by decide) wd_72 rfl dX8_where_15 ?_
      refine J_iload_n (pc := 18) (x := x1) dX8_where_18 rfl ?_
      refine J_callVi (pc := 19) (t := 7) (as := [.int x1]) (st := [.int x2]) (c_X7_pagesOf hG hn x1 I1) (ok_c hn 3 (by decide) rfl) (by decide) rfl (cw_RX8_145 rfl) wd_197 wd_196 rfl ⟨Nat.le_of_ble_eq_true rfl, Nat.le_of_ble_eq_true rfl, Nat.le_of_ble_eq_true rfl, Nat.le_of_ble_eq_true rfl⟩ (Nat.le_of_ble_eq_true rfl) rfl dX8_where_19 (fun r4 I3 => ?_)
      refine J_icmp_le (pc := 22) (tgt := 27) dX8_where_22 (by decide) ?_ ?_
      · refine J_aload_n (pc := 27) (x := 0) dX8_where_27 rfl ?_
        refine J_get (pc := 28) (t := 8) (k := 4) (.ref 53) (ok_c hn 0 (by decide) rfl) (by decide) rfl ingX8 (by decide) wd_82 rfl dX8_where_28 ?_
        refine J_iload_n (pc := 31) (x := x1) dX8_where_31 rfl ?_
        refine J_ck (fun hc5 => ?_)
        refine J_sald (pc := 32) (ok_c hn 53 (by decide) rfl) (inb_in hc5) dX8_where_32 ?_
        refine J_astore (pc := 33) (ls' := [some (.ref 0), some (.int x1), some (.int x2), some (.int x3), some (.ref (54 + 4 * (tn x1)))]) dX8_where_33 (Nat.le_of_ble_eq_true rfl) rfl rfl ?_
        refine J_iload_n (pc := 35) (x := x3) dX8_where_35 rfl ?_
        refine J_ite (fun hq6 => ?_) (fun hq6 => ?_)
        · refine J_tblIn (pc := 36) (off := 40) (tgt := 76) dX8_where_36 (by rw [hq6]; decide) (by rw [hq6]; decide) (by rw [hq6]; decide) (by decide) ?_
          refine J_aload (pc := 76) (x := (54 + 4 * (tn x1))) dX8_where_76 rfl ?_
          refine J_iload_n (pc := 78) (x := x2) dX8_where_78 rfl ?_
          refine J_callVi (pc := 79) (t := 5) (as := [.int x2]) (st := []) (c_X5_sideOf hG hn (54 + 4 * (tn x1)) x2 (ok_sheet hn hc5) I3) (ok_sheet hn hc5) (by decide) rfl (cw_RX8_168 rfl) wd_308 wd_307 rfl ⟨Nat.le_of_ble_eq_true rfl, Nat.le_of_ble_eq_true rfl, Nat.le_of_ble_eq_true rfl, Nat.le_of_ble_eq_true rfl⟩ (Nat.le_of_ble_eq_true rfl) rfl dX8_where_79 (fun r8 I7 => ?_)
          exact J_iret (pc := 82) dX8_where_82
        refine J_ite (fun hq9 => ?_) (fun hq9 => ?_)
        · refine J_tblIn (pc := 36) (off := 47) (tgt := 83) dX8_where_36 (by rw [hq9]; decide) (by rw [hq9]; decide) (by rw [hq9]; decide) (by decide) ?_
          refine J_aload (pc := 83) (x := (54 + 4 * (tn x1))) dX8_where_83 rfl ?_
          refine J_iload_n (pc := 85) (x := x2) dX8_where_85 rfl ?_
          refine J_callVi (pc := 86) (t := 5) (as := [.int x2]) (st := []) (c_X5_columnOf hG hn (54 + 4 * (tn x1)) x2 (ok_sheet hn hc5) I3) (ok_sheet hn hc5) (by decide) rfl (cw_RX8_171 rfl) wd_312 wd_311 rfl ⟨Nat.le_of_ble_eq_true rfl, Nat.le_of_ble_eq_true rfl, Nat.le_of_ble_eq_true rfl, Nat.le_of_ble_eq_true rfl⟩ (Nat.le_of_ble_eq_true rfl) rfl dX8_where_86 (fun r11 I10 => ?_)
          exact J_iret (pc := 89) dX8_where_89
        refine J_ite (fun hq12 => ?_) (fun hq12 => ?_)
        · refine J_tblIn (pc := 36) (off := 54) (tgt := 90) dX8_where_36 (by rw [hq12]; decide) (by rw [hq12]; decide) (by rw [hq12]; decide) (by decide) ?_
          refine J_aload (pc := 90) (x := (54 + 4 * (tn x1))) dX8_where_90 rfl ?_
          refine J_iload_n (pc := 92) (x := x2) dX8_where_92 rfl ?_
          refine J_callVi (pc := 93) (t := 5) (as := [.int x2]) (st := []) (c_X5_rowOf hG hn (54 + 4 * (tn x1)) x2 (ok_sheet hn hc5) I3) (ok_sheet hn hc5) (by decide) rfl (cw_RX8_174 rfl) wd_316 wd_315 rfl ⟨Nat.le_of_ble_eq_true rfl, Nat.le_of_ble_eq_true rfl, Nat.le_of_ble_eq_true rfl, Nat.le_of_ble_eq_true rfl⟩ (Nat.le_of_ble_eq_true rfl) rfl dX8_where_93 (fun r14 I13 => ?_)
          exact J_iret (pc := 96) dX8_where_96
        refine J_ite (fun hq15 => ?_) (fun hq15 => ?_)
        · refine J_tblIn (pc := 36) (off := 61) (tgt := 97) dX8_where_36 (by rw [hq15]; decide) (by rw [hq15]; decide) (by rw [hq15]; decide) (by decide) ?_
          refine J_aload (pc := 97) (x := (54 + 4 * (tn x1))) dX8_where_97 rfl ?_
          refine J_iload_n (pc := 99) (x := x2) dX8_where_99 rfl ?_
          refine J_callVi (pc := 100) (t := 5) (as := [.int x2]) (st := []) (c_X5_isOverturned hG hn (54 + 4 * (tn x1)) x2 (ok_sheet hn hc5) I3) (ok_sheet hn hc5) (by decide) rfl (cw_RX8_177 rfl) wd_320 wd_319 rfl ⟨Nat.le_of_ble_eq_true rfl, Nat.le_of_ble_eq_true rfl, Nat.le_of_ble_eq_true rfl, Nat.le_of_ble_eq_true rfl⟩ (Nat.le_of_ble_eq_true rfl) rfl dX8_where_100 (fun r17 I16 => ?_)
          exact J_iret (pc := 103) dX8_where_103
        refine J_ite (fun hq18 => ?_) (fun hq18 => ?_)
        · refine J_tblIn (pc := 36) (off := 68) (tgt := 104) dX8_where_36 (by rw [hq18]; decide) (by rw [hq18]; decide) (by rw [hq18]; decide) (by decide) ?_
          refine J_iload_n (pc := 104) (x := x2) dX8_where_104 rfl ?_
          refine J_callSi (pc := 105) (as := [.int x2]) (st := []) (c_X5_behind hG hn x2 I3) (cw_RX8_180 rfl) wd_296 rfl ⟨Nat.le_of_ble_eq_true rfl, Nat.le_of_ble_eq_true rfl, Nat.le_of_ble_eq_true rfl, Nat.le_of_ble_eq_true rfl⟩ (Nat.le_of_ble_eq_true rfl) rfl dX8_where_105 (fun r20 I19 => ?_)
          exact J_iret (pc := 108) dX8_where_108
        refine J_ite (fun hq21 => ?_) (fun hq21 => ?_)
        · refine J_tblIn (pc := 36) (off := 73) (tgt := 109) dX8_where_36 (by rw [hq21]; decide) (by rw [hq21]; decide) (by rw [hq21]; decide) (by decide) ?_
          refine J_aload (pc := 109) (x := (54 + 4 * (tn x1))) dX8_where_109 rfl ?_
          refine J_iload_n (pc := 111) (x := x2) dX8_where_111 rfl ?_
          refine J_callVi (pc := 112) (t := 5) (as := [.int x2]) (st := []) (c_X5_rightOf hG hn (54 + 4 * (tn x1)) x2 (ok_sheet hn hc5) I3) (ok_sheet hn hc5) (by decide) rfl (cw_RX8_183 rfl) wd_330 wd_329 rfl ⟨Nat.le_of_ble_eq_true rfl, Nat.le_of_ble_eq_true rfl, Nat.le_of_ble_eq_true rfl, Nat.le_of_ble_eq_true rfl⟩ (Nat.le_of_ble_eq_true rfl) rfl dX8_where_112 (fun r23 I22 => ?_)
          exact J_iret (pc := 115) dX8_where_115
        refine J_tblOut (pc := 36) (tgt := 116) dX8_where_36 (by have e0 := ne_int hq6 (show ((0 : Int32)).toInt = 0 by decide); have e1 := ne_int hq9 (show ((1 : Int32)).toInt = 1 by decide); have e2 := ne_int hq12 (show ((2 : Int32)).toInt = 2 by decide); have e3 := ne_int hq15 (show ((3 : Int32)).toInt = 3 by decide); have e4 := ne_int hq18 (show ((4 : Int32)).toInt = 4 by decide); have e5 := ne_int hq21 (show ((5 : Int32)).toInt = 5 by decide); omega) (by decide) ?_
        refine J_iconst (pc := 116) (v := (-1 : Int32)) dX8_where_116 (by decide) ?_
        exact J_iret (pc := 117) dX8_where_117
      · refine J_iconst (pc := 25) (v := (-1 : Int32)) dX8_where_25 (by decide) ?_
        exact J_iret (pc := 26) dX8_where_26
abbrev mu_X5_overturnedLeaves (G : Gt) : Mt (Int32 × Mem) := mi G cX5_overturnedLeaves 3 yX5_overturnedLeaves.cls (some .int) 2 41
def b_X5_overturnedLeaves_4 (K27 : Int32 → Mem → Option (Int32 × Mem)) (R : Nat → Int32 → Int32 → Mem → Option (Int32 × Mem)) (a0 : Nat) (x1 : Int32) (x2 : Int32) (I : Mem) : Option (Int32 × Mem) :=
  bI (f_X5_leaves a0 I) fun r2 I1 => (if r2 ≤ x2 then K27 x1 I1 else ck (inb x2 16) <| R a0 (x1 + (I1 (a0 + 2) (tn x2))) (x2 + (1 : Int32)) I1)
def l_X5_overturnedLeaves_4 (K27 : Int32 → Mem → Option (Int32 × Mem)) : Nat → Nat → Int32 → Int32 → Mem → Option (Int32 × Mem) := fx (b_X5_overturnedLeaves_4 K27) (fun _ _ _ _ => none)
def f_X5_overturnedLeaves (a0 : Nat) (I : Mem) : Option (Int32 × Mem) :=
  l_X5_overturnedLeaves_4 (fun (z4 : Int32) I5 => some (z4, I5)) fuel a0 (0 : Int32) (0 : Int32) I
set_option maxRecDepth 100000 in
theorem tb_X5_overturnedLeaves_4 {G : Gt} (hG : Gok G) (hn : Gn G) {K27 : Int32 → Mem → Option (Int32 × Mem)} (hK27 : ∀ (x1 : Int32) (I : Mem), J G (mu_X5_overturnedLeaves G) 27 [none, some (.int x1), none] [] I (K27 x1 I)) {R : Nat → Int32 → Int32 → Mem → Option (Int32 × Mem)} (hR : ∀ (a0 : Nat) (x1 : Int32) (x2 : Int32) (o0 : ok G a0 5) (I : Mem), J G (mu_X5_overturnedLeaves G) 4 [some (.ref a0), some (.int x1), some (.int x2)] [] I (R a0 x1 x2 I)) (a0 : Nat) (x1 : Int32) (x2 : Int32) (o0 : ok G a0 5) (I : Mem) : J G (mu_X5_overturnedLeaves G) 4 [some (.ref a0), some (.int x1), some (.int x2)] [] I (b_X5_overturnedLeaves_4 K27 R a0 x1 x2 I) := by
  unfold b_X5_overturnedLeaves_4
  refine J_iload_n (pc := 4) (x := x2) dX5_overturnedLeaves_4 rfl ?_
  refine J_aload_n (pc := 5) (x := a0) dX5_overturnedLeaves_5 rfl ?_
  refine J_callVi (pc := 6) (t := 5) (as := []) (st := [.int x2]) (c_X5_leaves hG hn a0 o0 I) o0 (by decide) rfl (cw_RX5_43 rfl) wd_97 wd_96 rfl ⟨Nat.le_of_ble_eq_true rfl, Nat.le_of_ble_eq_true rfl, Nat.le_of_ble_eq_true rfl, Nat.le_of_ble_eq_true rfl⟩ (Nat.le_of_ble_eq_true rfl) rfl dX5_overturnedLeaves_6 (fun r2 I1 => ?_)
  refine J_icmp_ge (pc := 9) (tgt := 27) dX5_overturnedLeaves_9 (by decide) ?_ ?_
  · refine J_weak (ls' := [none, some (.int x1), none]) ⟨rfl, trivial⟩ ?_
    exact hK27 x1 I1
  · refine J_iload_n (pc := 12) (x := x1) dX5_overturnedLeaves_12 rfl ?_
    refine J_aload_n (pc := 13) (x := a0) dX5_overturnedLeaves_13 rfl ?_
    refine J_get (pc := 14) (t := 5) (k := 4) (.ref (a0 + 2)) o0 (by decide) rfl ingX5 (by decide) wd_145 rfl dX5_overturnedLeaves_14 ?_
    refine J_iload_n (pc := 17) (x := x2) dX5_overturnedLeaves_17 rfl ?_
    refine J_ck (fun hc3 => ?_)
    refine J_ild (pc := 18) (t := 19) (k := (tn x2)) (okf_5_2 hn o0) iT_19 (inb_in hc3) rfl dX5_overturnedLeaves_18 ?_
    refine J_iadd (pc := 19) dX5_overturnedLeaves_19 ?_
    refine J_istore_n (pc := 20) (ls' := [some (.ref a0), some (.int (x1 + (I1 (a0 + 2) (tn x2)))), some (.int x2)]) dX5_overturnedLeaves_20 (Nat.le_of_ble_eq_true rfl) rfl rfl ?_
    refine J_iinc (pc := 21) (d := (1 : Int32)) (ls' := [some (.ref a0), some (.int (x1 + (I1 (a0 + 2) (tn x2)))), some (.int (x2 + (1 : Int32)))]) dX5_overturnedLeaves_21 (by decide) rfl (Nat.le_of_ble_eq_true rfl) rfl rfl ?_
    refine J_goto (pc := 24) (tgt := 4) dX5_overturnedLeaves_24 (by decide) ?_
    exact hR a0 (x1 + (I1 (a0 + 2) (tn x2))) (x2 + (1 : Int32)) o0 I1
theorem tl_X5_overturnedLeaves_4 {G : Gt} (hG : Gok G) (hn : Gn G) {K27 : Int32 → Mem → Option (Int32 × Mem)} (hK27 : ∀ (x1 : Int32) (I : Mem), J G (mu_X5_overturnedLeaves G) 27 [none, some (.int x1), none] [] I (K27 x1 I)) (n : Nat) : ∀ (a0 : Nat) (x1 : Int32) (x2 : Int32) (o0 : ok G a0 5) (I : Mem), J G (mu_X5_overturnedLeaves G) 4 [some (.ref a0), some (.int x1), some (.int x2)] [] I (l_X5_overturnedLeaves_4 K27 n a0 x1 x2 I) := by
  induction n with
  | zero => intro a0 x1 x2 o0 I; exact J_none
  | succ n ih => intro a0 x1 x2 o0 I; exact tb_X5_overturnedLeaves_4 hG hn hK27 ih a0 x1 x2 o0 I
set_option maxRecDepth 100000 in
theorem c_X5_overturnedLeaves {G : Gt} (hG : Gok G) (hn : Gn G) (a0 : Nat) (o0 : ok G a0 5) (I : Mem) : Cti G yX5_overturnedLeaves cX5_overturnedLeaves 3 (some .int) 2 41 [.ref a0] I (f_X5_overturnedLeaves a0 I) := by
  refine Cti.of (ls := [some (.ref a0), none, none]) 2 hG (by decide) rfl (Nat.le_of_ble_eq_true rfl) ?_
  unfold f_X5_overturnedLeaves
  refine J_iconst (pc := 0) (v := (0 : Int32)) dX5_overturnedLeaves_0 (by decide) ?_
  refine J_istore_n (pc := 1) (ls' := [some (.ref a0), some (.int (0 : Int32)), none]) dX5_overturnedLeaves_1 (Nat.le_of_ble_eq_true rfl) rfl rfl ?_
  refine J_iconst (pc := 2) (v := (0 : Int32)) dX5_overturnedLeaves_2 (by decide) ?_
  refine J_istore_n (pc := 3) (ls' := [some (.ref a0), some (.int (0 : Int32)), some (.int (0 : Int32))]) dX5_overturnedLeaves_3 (Nat.le_of_ble_eq_true rfl) rfl rfl ?_
  refine tl_X5_overturnedLeaves_4 hG hn (fun z4 I5 => ?_) fuel a0 (0 : Int32) (0 : Int32) o0 I
  · refine J_iload_n (pc := 27) (x := z4) dX5_overturnedLeaves_27 rfl ?_
    exact J_iret (pc := 28) dX5_overturnedLeaves_28
abbrev mu_X8_turned (G : Gt) : Mt (Int32 × Mem) := mi G cX8_turned 3 yX8_turned.cls (some .int) 3 63
def f_X8_turned (x1 : Int32) (x2 : Int32) (I : Mem) : Option (Int32 × Mem) :=
  bI (f_X8_isScheme x1 I) fun r2 I1 => (if r2 = 0 then some ((-1 : Int32), I1) else bI (f_X8_isSide x2 I1) fun r4 I3 => (if r4 = 0 then some ((-1 : Int32), I3) else ck (inb x1 4) <| bI (f_X5_overturnedLeaves (54 + 4 * (tn x1)) I3) fun r7 I6 => some (r7, I6)))
set_option maxRecDepth 100000 in
theorem c_X8_turned {G : Gt} (hG : Gok G) (hn : Gn G) (x1 : Int32) (x2 : Int32) (I : Mem) : Cti G yX8_turned cX8_turned 3 (some .int) 3 63 [.ref 0, .int x1, .int x2] I (f_X8_turned x1 x2 I) := by
  refine Cti.of (ls := [some (.ref 0), some (.int x1), some (.int x2)]) 0 hG (by decide) rfl (Nat.le_of_ble_eq_true rfl) ?_
  unfold f_X8_turned
  refine J_aload_n (pc := 0) (x := 0) dX8_turned_0 rfl ?_
  refine J_iload_n (pc := 1) (x := x1) dX8_turned_1 rfl ?_
  refine J_callVi (pc := 2) (t := 8) (as := [.int x1]) (st := []) (c_X8_isScheme hG hn x1 I) (ok_c hn 0 (by decide) rfl) (by decide) rfl (cw_RX8_104 rfl) wd_257 wd_256 rfl ⟨Nat.le_of_ble_eq_true rfl, Nat.le_of_ble_eq_true rfl, Nat.le_of_ble_eq_true rfl, Nat.le_of_ble_eq_true rfl⟩ (Nat.le_of_ble_eq_true rfl) rfl dX8_turned_2 (fun r2 I1 => ?_)
  refine J_if_eq (pc := 5) (tgt := 15) dX8_turned_5 (by decide) ?_ ?_
  · refine J_iconst (pc := 15) (v := (-1 : Int32)) dX8_turned_15 (by decide) ?_
    exact J_iret (pc := 16) dX8_turned_16
  · refine J_iload_n (pc := 8) (x := x2) dX8_turned_8 rfl ?_
    refine J_callSi (pc := 9) (as := [.int x2]) (st := []) (c_X8_isSide hG hn x2 I1) (cw_RX8_158 rfl) wd_285 rfl ⟨Nat.le_of_ble_eq_true rfl, Nat.le_of_ble_eq_true rfl, Nat.le_of_ble_eq_true rfl, Nat.le_of_ble_eq_true rfl⟩ (Nat.le_of_ble_eq_true rfl) rfl dX8_turned_9 (fun r4 I3 => ?_)
    refine J_if_ne (pc := 12) (tgt := 17) dX8_turned_12 (by decide) ?_ ?_
    · refine J_iconst (pc := 15) (v := (-1 : Int32)) dX8_turned_15 (by decide) ?_
      exact J_iret (pc := 16) dX8_turned_16
    · refine J_aload_n (pc := 17) (x := 0) dX8_turned_17 rfl ?_
      refine J_get (pc := 18) (t := 8) (k := 4) (.ref 53) (ok_c hn 0 (by decide) rfl) (by decide) rfl ingX8 (by decide) wd_82 rfl dX8_turned_18 ?_
      refine J_iload_n (pc := 21) (x := x1) dX8_turned_21 rfl ?_
      refine J_ck (fun hc5 => ?_)
      refine J_sald (pc := 22) (ok_c hn 53 (by decide) rfl) (inb_in hc5) dX8_turned_22 ?_
      refine J_callVi (pc := 23) (t := 5) (as := []) (st := []) (c_X5_overturnedLeaves hG hn (54 + 4 * (tn x1)) (ok_sheet hn hc5) I3) (ok_sheet hn hc5) (by decide) rfl (cw_RX8_186 rfl) wd_334 wd_333 rfl ⟨Nat.le_of_ble_eq_true rfl, Nat.le_of_ble_eq_true rfl, Nat.le_of_ble_eq_true rfl, Nat.le_of_ble_eq_true rfl⟩ (Nat.le_of_ble_eq_true rfl) rfl dX8_turned_23 (fun r7 I6 => ?_)
      exact J_iret (pc := 26) dX8_turned_26
abbrev mu_X8_isFoldCount (G : Gt) : Mt (Int32 × Mem) := mi G cX8_isFoldCount 1 yX8_isFoldCount.cls (some .boolean) 0 0
def f_X8_isFoldCount (x0 : Int32) (I : Mem) : Option (Int32 × Mem) :=
  (if x0 < (1 : Int32) then some ((0 : Int32), I) else (if (4 : Int32) < x0 then some ((0 : Int32), I) else some ((1 : Int32), I)))
set_option maxRecDepth 100000 in
theorem c_X8_isFoldCount {G : Gt} (hG : Gok G) (hn : Gn G) (x0 : Int32) (I : Mem) : Cti G yX8_isFoldCount cX8_isFoldCount 1 (some .boolean) 0 0 [.int x0] I (f_X8_isFoldCount x0 I) := by
  refine Cti.of (ls := [some (.int x0)]) 0 hG (by decide) rfl (Nat.le_of_ble_eq_true rfl) ?_
  unfold f_X8_isFoldCount
  refine J_iload_n (pc := 0) (x := x0) dX8_isFoldCount_0 rfl ?_
  refine J_iconst (pc := 1) (v := (1 : Int32)) dX8_isFoldCount_1 (by decide) ?_
  refine J_icmp_lt (pc := 2) (tgt := 14) dX8_isFoldCount_2 (by decide) ?_ ?_
  · refine J_iconst (pc := 14) (v := (0 : Int32)) dX8_isFoldCount_14 (by decide) ?_
    exact J_zret (pc := 15) rfl dX8_isFoldCount_15
  · refine J_iload_n (pc := 5) (x := x0) dX8_isFoldCount_5 rfl ?_
    refine J_iconst (pc := 6) (v := (4 : Int32)) dX8_isFoldCount_6 (by decide) ?_
    refine J_icmp_gt (pc := 7) (tgt := 14) dX8_isFoldCount_7 (by decide) ?_ ?_
    · refine J_iconst (pc := 14) (v := (0 : Int32)) dX8_isFoldCount_14 (by decide) ?_
      exact J_zret (pc := 15) rfl dX8_isFoldCount_15
    · refine J_iconst (pc := 10) (v := (1 : Int32)) dX8_isFoldCount_10 (by decide) ?_
      refine J_goto (pc := 11) (tgt := 15) dX8_isFoldCount_11 (by decide) ?_
      exact J_zret (pc := 15) rfl dX8_isFoldCount_15
abbrev mu_X2_codesOf (G : Gt) : Mt (Int32 × Mem) := mi G cX2_codesOf 1 yX2_codesOf.cls (some .int) 0 0
def f_X2_codesOf (x0 : Int32) (I : Mem) : Option (Int32 × Mem) :=
  some (((1 : Int32) <<< (((2 : Int32) * x0) &&& 31)), I)
set_option maxRecDepth 100000 in
theorem c_X2_codesOf {G : Gt} (hG : Gok G) (hn : Gn G) (x0 : Int32) (I : Mem) : Cti G yX2_codesOf cX2_codesOf 1 (some .int) 0 0 [.int x0] I (f_X2_codesOf x0 I) := by
  refine Cti.of (ls := [some (.int x0)]) 0 hG (by decide) rfl (Nat.le_of_ble_eq_true rfl) ?_
  unfold f_X2_codesOf
  refine J_iconst (pc := 0) (v := (1 : Int32)) dX2_codesOf_0 (by decide) ?_
  refine J_iconst (pc := 1) (v := (2 : Int32)) dX2_codesOf_1 (by decide) ?_
  refine J_iload_n (pc := 2) (x := x0) dX2_codesOf_2 rfl ?_
  refine J_imul (pc := 3) dX2_codesOf_3 ?_
  refine J_ishl (pc := 4) dX2_codesOf_4 ?_
  exact J_iret (pc := 5) dX2_codesOf_5
abbrev mu_X2_isTried (G : Gt) : Mt (Int32 × Mem) := mi G cX2_isTried 3 yX2_isTried.cls (some .boolean) 4 94
def f_X2_isTried (x1 : Int32) (x2 : Int32) (I : Mem) : Option (Int32 × Mem) :=
  bI (f_X5_lastFigure x2 I) fun r2 I1 => bI (f_X5_isAcross r2 I1) fun r4 I3 => (if r4 = 0 then some ((0 : Int32), I3) else bV (f_X5_foldBy 71 x1 x2 I3) fun I5 => some ((1 : Int32), I5))
set_option maxRecDepth 100000 in
theorem c_X2_isTried {G : Gt} (hG : Gok G) (hn : Gn G) (x1 : Int32) (x2 : Int32) (I : Mem) : Cti G yX2_isTried cX2_isTried 3 (some .boolean) 4 94 [.ref 70, .int x1, .int x2] I (f_X2_isTried x1 x2 I) := by
  refine Cti.of (ls := [some (.ref 70), some (.int x1), some (.int x2)]) 0 hG (by decide) rfl (Nat.le_of_ble_eq_true rfl) ?_
  unfold f_X2_isTried
  refine J_iload_n (pc := 0) (x := x2) dX2_isTried_0 rfl ?_
  refine J_callSi (pc := 1) (as := [.int x2]) (st := []) (c_X5_lastFigure hG hn x2 I) (cw_RX2_22 rfl) wd_21 rfl ⟨Nat.le_of_ble_eq_true rfl, Nat.le_of_ble_eq_true rfl, Nat.le_of_ble_eq_true rfl, Nat.le_of_ble_eq_true rfl⟩ (Nat.le_of_ble_eq_true rfl) rfl dX2_isTried_1 (fun r2 I1 => ?_)
  refine J_callSi (pc := 4) (as := [.int r2]) (st := []) (c_X5_isAcross hG hn r2 I1) (cw_RX2_26 rfl) wd_25 rfl ⟨Nat.le_of_ble_eq_true rfl, Nat.le_of_ble_eq_true rfl, Nat.le_of_ble_eq_true rfl, Nat.le_of_ble_eq_true rfl⟩ (Nat.le_of_ble_eq_true rfl) rfl dX2_isTried_4 (fun r4 I3 => ?_)
  refine J_if_ne (pc := 7) (tgt := 12) dX2_isTried_7 (by decide) ?_ ?_
  · refine J_iconst (pc := 10) (v := (0 : Int32)) dX2_isTried_10 (by decide) ?_
    exact J_zret (pc := 11) rfl dX2_isTried_11
  · refine J_aload_n (pc := 12) (x := 70) dX2_isTried_12 rfl ?_
    refine J_get (pc := 13) (t := 2) (k := 0) (.ref 71) (ok_c hn 70 (by decide) rfl) (by decide) rfl ingX2 (by decide) wd_347 rfl dX2_isTried_13 ?_
    refine J_iload_n (pc := 16) (x := x1) dX2_isTried_16 rfl ?_
    refine J_iload_n (pc := 17) (x := x2) dX2_isTried_17 rfl ?_
    refine J_callVv (pc := 18) (t := 5) (as := [.int x1, .int x2]) (st := []) (c_X5_foldBy hG hn 71 x1 x2 (ok_c hn 71 (by decide) rfl) I3) (ok_c hn 71 (by decide) rfl) (by decide) rfl (cw_RX2_30 rfl) wd_148 wd_147 rfl ⟨Nat.le_of_ble_eq_true rfl, Nat.le_of_ble_eq_true rfl, Nat.le_of_ble_eq_true rfl, Nat.le_of_ble_eq_true rfl⟩ (Nat.le_of_ble_eq_true rfl) rfl dX2_isTried_18 (fun I5 => ?_)
    refine J_iconst (pc := 21) (v := (1 : Int32)) dX2_isTried_21 (by decide) ?_
    exact J_zret (pc := 22) rfl dX2_isTried_22
abbrev mu_X2_firstWith (G : Gt) : Mt (Int32 × Mem) := mi G cX2_firstWith 7 yX2_firstWith.cls (some .int) 5 116
def b_X2_firstWith_3 (K52 : Int32 → Mem → Option (Int32 × Mem)) (K61 : Mem → Option (Int32 × Mem)) (R : Int32 → Int32 → Int32 → Int32 → Int32 → Int32 → Mem → Option (Int32 × Mem)) (x1 : Int32) (x2 : Int32) (x3 : Int32) (x4 : Int32) (x5 : Int32) (x6 : Int32) (I : Mem) : Option (Int32 × Mem) :=
  bI (f_X2_codesOf x1 I) fun r2 I1 => (if r2 ≤ x6 then K61 I1 else bI (f_X2_isTried x1 x6 I1) fun r4 I3 => (if r4 = 0 then R x1 x2 x3 x4 x5 (x6 + (1 : Int32)) I3 else bI (f_X5_hasCell 71 x4 x5 I3) fun r6 I5 => (if r6 = 0 then R x1 x2 x3 x4 x5 (x6 + (1 : Int32)) I5 else bI (f_X5_pageOn 71 x3 x4 x5 I5) fun r8 I7 => (if r8 = x2 then K52 x6 I7 else R x1 x2 x3 x4 x5 (x6 + (1 : Int32)) I7))))
def l_X2_firstWith_3 (K52 : Int32 → Mem → Option (Int32 × Mem)) (K61 : Mem → Option (Int32 × Mem)) : Nat → Int32 → Int32 → Int32 → Int32 → Int32 → Int32 → Mem → Option (Int32 × Mem) := fx (b_X2_firstWith_3 K52 K61) (fun _ _ _ _ _ _ _ => none)
def f_X2_firstWith (x1 : Int32) (x2 : Int32) (x3 : Int32) (x4 : Int32) (x5 : Int32) (I : Mem) : Option (Int32 × Mem) :=
  l_X2_firstWith_3 (fun (z9 : Int32) I10 => some (z9, I10)) (fun I11 => some ((-4 : Int32), I11)) fuel x1 x2 x3 x4 x5 (0 : Int32) I
set_option maxRecDepth 100000 in
theorem tb_X2_firstWith_3 {G : Gt} (hG : Gok G) (hn : Gn G) {K52 : Int32 → Mem → Option (Int32 × Mem)} (hK52 : ∀ (x6 : Int32) (I : Mem), J G (mu_X2_firstWith G) 52 [none, none, none, none, none, none, some (.int x6)] [] I (K52 x6 I)) {K61 : Mem → Option (Int32 × Mem)} (hK61 : ∀ (I : Mem), J G (mu_X2_firstWith G) 61 [none, none, none, none, none, none, none] [] I (K61 I)) {R : Int32 → Int32 → Int32 → Int32 → Int32 → Int32 → Mem → Option (Int32 × Mem)} (hR : ∀ (x1 : Int32) (x2 : Int32) (x3 : Int32) (x4 : Int32) (x5 : Int32) (x6 : Int32) (I : Mem), J G (mu_X2_firstWith G) 3 [some (.ref 70), some (.int x1), some (.int x2), some (.int x3), some (.int x4), some (.int x5), some (.int x6)] [] I (R x1 x2 x3 x4 x5 x6 I)) (x1 : Int32) (x2 : Int32) (x3 : Int32) (x4 : Int32) (x5 : Int32) (x6 : Int32) (I : Mem) : J G (mu_X2_firstWith G) 3 [some (.ref 70), some (.int x1), some (.int x2), some (.int x3), some (.int x4), some (.int x5), some (.int x6)] [] I (b_X2_firstWith_3 K52 K61 R x1 x2 x3 x4 x5 x6 I) := by
  unfold b_X2_firstWith_3
  refine J_iload (pc := 3) (x := x6) dX2_firstWith_3 rfl ?_
  refine J_iload_n (pc := 5) (x := x1) dX2_firstWith_5 rfl ?_
  refine J_callSi (pc := 6) (as := [.int x1]) (st := [.int x6]) (c_X2_codesOf hG hn x1 I) (cw_RX2_34 rfl) wd_341 rfl ⟨Nat.le_of_ble_eq_true rfl, Nat.le_of_ble_eq_true rfl, Nat.le_of_ble_eq_true rfl, Nat.le_of_ble_eq_true rfl⟩ (Nat.le_of_ble_eq_true rfl) rfl dX2_firstWith_6 (fun r2 I1 => ?_)
  refine J_icmp_ge (pc := 9) (tgt := 61) dX2_firstWith_9 (by decide) ?_ ?_
  · refine J_weak (ls' := [none, none, none, none, none, none, none]) trivial ?_
    exact hK61 I1
  · refine J_aload_n (pc := 12) (x := 70) dX2_firstWith_12 rfl ?_
    refine J_iload_n (pc := 13) (x := x1) dX2_firstWith_13 rfl ?_
    refine J_iload (pc := 14) (x := x6) dX2_firstWith_14 rfl ?_
    refine J_callVi (pc := 16) (t := 2) (as := [.int x1, .int x6]) (st := []) (c_X2_isTried hG hn x1 x6 I1) (ok_c hn 70 (by decide) rfl) (by decide) rfl (cw_RX2_37 rfl) wd_350 wd_349 rfl ⟨Nat.le_of_ble_eq_true rfl, Nat.le_of_ble_eq_true rfl, Nat.le_of_ble_eq_true rfl, Nat.le_of_ble_eq_true rfl⟩ (Nat.le_of_ble_eq_true rfl) rfl dX2_firstWith_16 (fun r4 I3 => ?_)
    refine J_if_eq (pc := 19) (tgt := 55) dX2_firstWith_19 (by decide) ?_ ?_
    · refine J_iinc (pc := 55) (d := (1 : Int32)) (ls' := [some (.ref 70), some (.int x1), some (.int x2), some (.int x3), some (.int x4), some (.int x5), some (.int (x6 + (1 : Int32)))]) dX2_firstWith_55 (by decide) rfl (Nat.le_of_ble_eq_true rfl) rfl rfl ?_
      refine J_goto (pc := 58) (tgt := 3) dX2_firstWith_58 (by decide) ?_
      exact hR x1 x2 x3 x4 x5 (x6 + (1 : Int32)) I3
    · refine J_aload_n (pc := 22) (x := 70) dX2_firstWith_22 rfl ?_
      refine J_get (pc := 23) (t := 2) (k := 0) (.ref 71) (ok_c hn 70 (by decide) rfl) (by decide) rfl ingX2 (by decide) wd_347 rfl dX2_firstWith_23 ?_
      refine J_iload (pc := 26) (x := x4) dX2_firstWith_26 rfl ?_
      refine J_iload (pc := 28) (x := x5) dX2_firstWith_28 rfl ?_
      refine J_callVi (pc := 30) (t := 5) (as := [.int x4, .int x5]) (st := []) (c_X5_hasCell hG hn 71 x4 x5 (ok_c hn 71 (by decide) rfl) I3) (ok_c hn 71 (by decide) rfl) (by decide) rfl (cw_RX2_41 rfl) wd_289 wd_288 rfl ⟨Nat.le_of_ble_eq_true rfl, Nat.le_of_ble_eq_true rfl, Nat.le_of_ble_eq_true rfl, Nat.le_of_ble_eq_true rfl⟩ (Nat.le_of_ble_eq_true rfl) rfl dX2_firstWith_30 (fun r6 I5 => ?_)
      refine J_if_eq (pc := 33) (tgt := 55) dX2_firstWith_33 (by decide) ?_ ?_
      · refine J_iinc (pc := 55) (d := (1 : Int32)) (ls' := [some (.ref 70), some (.int x1), some (.int x2), some (.int x3), some (.int x4), some (.int x5), some (.int (x6 + (1 : Int32)))]) dX2_firstWith_55 (by decide) rfl (Nat.le_of_ble_eq_true rfl) rfl rfl ?_
        refine J_goto (pc := 58) (tgt := 3) dX2_firstWith_58 (by decide) ?_
        exact hR x1 x2 x3 x4 x5 (x6 + (1 : Int32)) I5
      · refine J_aload_n (pc := 36) (x := 70) dX2_firstWith_36 rfl ?_
        refine J_get (pc := 37) (t := 2) (k := 0) (.ref 71) (ok_c hn 70 (by decide) rfl) (by decide) rfl ingX2 (by decide) wd_347 rfl dX2_firstWith_37 ?_
        refine J_iload_n (pc := 40) (x := x3) dX2_firstWith_40 rfl ?_
        refine J_iload (pc := 41) (x := x4) dX2_firstWith_41 rfl ?_
        refine J_iload (pc := 43) (x := x5) dX2_firstWith_43 rfl ?_
        refine J_callVi (pc := 45) (t := 5) (as := [.int x3, .int x4, .int x5]) (st := []) (c_X5_pageOn hG hn 71 x3 x4 x5 (ok_c hn 71 (by decide) rfl) I5) (ok_c hn 71 (by decide) rfl) (by decide) rfl (cw_RX2_44 rfl) wd_300 wd_299 rfl ⟨Nat.le_of_ble_eq_true rfl, Nat.le_of_ble_eq_true rfl, Nat.le_of_ble_eq_true rfl, Nat.le_of_ble_eq_true rfl⟩ (Nat.le_of_ble_eq_true rfl) rfl dX2_firstWith_45 (fun r8 I7 => ?_)
        refine J_iload_n (pc := 48) (x := x2) dX2_firstWith_48 rfl ?_
        refine J_icmp_ne (pc := 49) (tgt := 55) dX2_firstWith_49 (by decide) ?_ ?_
        · refine J_weak (ls' := [none, none, none, none, none, none, some (.int x6)]) ⟨rfl, trivial⟩ ?_
          exact hK52 x6 I7
        · refine J_iinc (pc := 55) (d := (1 : Int32)) (ls' := [some (.ref 70), some (.int x1), some (.int x2), some (.int x3), some (.int x4), some (.int x5), some (.int (x6 + (1 : Int32)))]) dX2_firstWith_55 (by decide) rfl (Nat.le_of_ble_eq_true rfl) rfl rfl ?_
          refine J_goto (pc := 58) (tgt := 3) dX2_firstWith_58 (by decide) ?_
          exact hR x1 x2 x3 x4 x5 (x6 + (1 : Int32)) I7
theorem tl_X2_firstWith_3 {G : Gt} (hG : Gok G) (hn : Gn G) {K52 : Int32 → Mem → Option (Int32 × Mem)} (hK52 : ∀ (x6 : Int32) (I : Mem), J G (mu_X2_firstWith G) 52 [none, none, none, none, none, none, some (.int x6)] [] I (K52 x6 I)) {K61 : Mem → Option (Int32 × Mem)} (hK61 : ∀ (I : Mem), J G (mu_X2_firstWith G) 61 [none, none, none, none, none, none, none] [] I (K61 I)) (n : Nat) : ∀ (x1 : Int32) (x2 : Int32) (x3 : Int32) (x4 : Int32) (x5 : Int32) (x6 : Int32) (I : Mem), J G (mu_X2_firstWith G) 3 [some (.ref 70), some (.int x1), some (.int x2), some (.int x3), some (.int x4), some (.int x5), some (.int x6)] [] I (l_X2_firstWith_3 K52 K61 n x1 x2 x3 x4 x5 x6 I) := by
  induction n with
  | zero => intro x1 x2 x3 x4 x5 x6 I; exact J_none
  | succ n ih => intro x1 x2 x3 x4 x5 x6 I; exact tb_X2_firstWith_3 hG hn hK52 hK61 ih x1 x2 x3 x4 x5 x6 I
set_option maxRecDepth 100000 in
theorem c_X2_firstWith {G : Gt} (hG : Gok G) (hn : Gn G) (x1 : Int32) (x2 : Int32) (x3 : Int32) (x4 : Int32) (x5 : Int32) (I : Mem) : Cti G yX2_firstWith cX2_firstWith 7 (some .int) 5 116 [.ref 70, .int x1, .int x2, .int x3, .int x4, .int x5] I (f_X2_firstWith x1 x2 x3 x4 x5 I) := by
  refine Cti.of (ls := [some (.ref 70), some (.int x1), some (.int x2), some (.int x3), some (.int x4), some (.int x5), none]) 1 hG (by decide) rfl (Nat.le_of_ble_eq_true rfl) ?_
  unfold f_X2_firstWith
  refine J_iconst (pc := 0) (v := (0 : Int32)) dX2_firstWith_0 (by decide) ?_
  refine J_istore (pc := 1) (ls' := [some (.ref 70), some (.int x1), some (.int x2), some (.int x3), some (.int x4), some (.int x5), some (.int (0 : Int32))]) dX2_firstWith_1 (Nat.le_of_ble_eq_true rfl) rfl rfl ?_
  refine tl_X2_firstWith_3 hG hn (fun z9 I10 => ?_) (fun I11 => ?_) fuel x1 x2 x3 x4 x5 (0 : Int32) I
  · refine J_iload (pc := 52) (x := z9) dX2_firstWith_52 rfl ?_
    exact J_iret (pc := 54) dX2_firstWith_54
  · refine J_bipush (pc := 61) (v := (-4 : Int32)) dX2_firstWith_61 (by decide) ?_
    exact J_iret (pc := 63) dX2_firstWith_63
abbrev mu_X8_find (G : Gt) : Mt (Int32 × Mem) := mi G cX8_find 6 yX8_find.cls (some .int) 6 142
def f_X8_find (x1 : Int32) (x2 : Int32) (x3 : Int32) (x4 : Int32) (x5 : Int32) (I : Mem) : Option (Int32 × Mem) :=
  bI (f_X8_isFoldCount x1 I) fun r2 I1 => (if r2 = 0 then some ((-1 : Int32), I1) else (if x2 < (1 : Int32) then some ((-1 : Int32), I1) else (if ((2 : Int32) <<< (x1 &&& 31)) < x2 then some ((-1 : Int32), I1) else bI (f_X8_isSide x3 I1) fun r4 I3 => (if r4 = 0 then some ((-1 : Int32), I3) else (if x4 < 0 then some ((-1 : Int32), I3) else (if (15 : Int32) < x4 then some ((-1 : Int32), I3) else (if x5 < 0 then some ((-1 : Int32), I3) else (if x5 ≤ (15 : Int32) then bI (f_X2_firstWith x1 x2 x3 x4 x5 I3) fun r6 I5 => some (r6, I5) else some ((-1 : Int32), I3)))))))))
set_option maxRecDepth 100000 in
theorem c_X8_find {G : Gt} (hG : Gok G) (hn : Gn G) (x1 : Int32) (x2 : Int32) (x3 : Int32) (x4 : Int32) (x5 : Int32) (I : Mem) : Cti G yX8_find cX8_find 6 (some .int) 6 142 [.ref 0, .int x1, .int x2, .int x3, .int x4, .int x5] I (f_X8_find x1 x2 x3 x4 x5 I) := by
  refine Cti.of (ls := [some (.ref 0), some (.int x1), some (.int x2), some (.int x3), some (.int x4), some (.int x5)]) 0 hG (by decide) rfl (Nat.le_of_ble_eq_true rfl) ?_
  unfold f_X8_find
  refine J_iload_n (pc := 0) (x := x1) dX8_find_0 rfl ?_
  refine J_callSi (pc := 1) (as := [.int x1]) (st := []) (c_X8_isFoldCount hG hn x1 I) (cw_RX8_189 rfl) wd_337 rfl ⟨Nat.le_of_ble_eq_true rfl, Nat.le_of_ble_eq_true rfl, Nat.le_of_ble_eq_true rfl, Nat.le_of_ble_eq_true rfl⟩ (Nat.le_of_ble_eq_true rfl) rfl dX8_find_1 (fun r2 I1 => ?_)
  refine J_if_eq (pc := 4) (tgt := 26) dX8_find_4 (by decide) ?_ ?_
  · refine J_iconst (pc := 26) (v := (-1 : Int32)) dX8_find_26 (by decide) ?_
    exact J_iret (pc := 27) dX8_find_27
  · refine J_iload_n (pc := 7) (x := x2) dX8_find_7 rfl ?_
    refine J_iconst (pc := 8) (v := (1 : Int32)) dX8_find_8 (by decide) ?_
    refine J_icmp_lt (pc := 9) (tgt := 26) dX8_find_9 (by decide) ?_ ?_
    · refine J_iconst (pc := 26) (v := (-1 : Int32)) dX8_find_26 (by decide) ?_
      exact J_iret (pc := 27) dX8_find_27
    · refine J_iload_n (pc := 12) (x := x2) dX8_find_12 rfl ?_
      refine J_iconst (pc := 13) (v := (2 : Int32)) dX8_find_13 (by decide) ?_
      refine J_iload_n (pc := 14) (x := x1) dX8_find_14 rfl ?_
      refine J_ishl (pc := 15) dX8_find_15 ?_
      refine J_icmp_gt (pc := 16) (tgt := 26) dX8_find_16 (by decide) ?_ ?_
      · refine J_iconst (pc := 26) (v := (-1 : Int32)) dX8_find_26 (by decide) ?_
        exact J_iret (pc := 27) dX8_find_27
      · refine J_iload_n (pc := 19) (x := x3) dX8_find_19 rfl ?_
        refine J_callSi (pc := 20) (as := [.int x3]) (st := []) (c_X8_isSide hG hn x3 I1) (cw_RX8_158 rfl) wd_285 rfl ⟨Nat.le_of_ble_eq_true rfl, Nat.le_of_ble_eq_true rfl, Nat.le_of_ble_eq_true rfl, Nat.le_of_ble_eq_true rfl⟩ (Nat.le_of_ble_eq_true rfl) rfl dX8_find_20 (fun r4 I3 => ?_)
        refine J_if_ne (pc := 23) (tgt := 28) dX8_find_23 (by decide) ?_ ?_
        · refine J_iconst (pc := 26) (v := (-1 : Int32)) dX8_find_26 (by decide) ?_
          exact J_iret (pc := 27) dX8_find_27
        · refine J_iload (pc := 28) (x := x4) dX8_find_28 rfl ?_
          refine J_if_lt (pc := 30) (tgt := 52) dX8_find_30 (by decide) ?_ ?_
          · refine J_iconst (pc := 52) (v := (-1 : Int32)) dX8_find_52 (by decide) ?_
            exact J_iret (pc := 53) dX8_find_53
          · refine J_iload (pc := 33) (x := x4) dX8_find_33 rfl ?_
            refine J_bipush (pc := 35) (v := (15 : Int32)) dX8_find_35 (by decide) ?_
            refine J_icmp_gt (pc := 37) (tgt := 52) dX8_find_37 (by decide) ?_ ?_
            · refine J_iconst (pc := 52) (v := (-1 : Int32)) dX8_find_52 (by decide) ?_
              exact J_iret (pc := 53) dX8_find_53
            · refine J_iload (pc := 40) (x := x5) dX8_find_40 rfl ?_
              refine J_if_lt (pc := 42) (tgt := 52) dX8_find_42 (by decide) ?_ ?_
              · refine J_iconst (pc := 52) (v := (-1 : Int32)) dX8_find_52 (by decide) ?_
                exact J_iret (pc := 53) dX8_find_53
              · refine J_iload (pc := 45) (x := x5) dX8_find_45 rfl ?_
                refine J_bipush (pc := 47) (v := (15 : Int32)) dX8_find_47 (by decide) ?_
                refine J_icmp_le (pc := 49) (tgt := 54) dX8_find_49 (by decide) ?_ ?_
                · refine J_aload_n (pc := 54) (x := 0) dX8_find_54 rfl ?_
                  refine J_get (pc := 55) (t := 8) (k := 5) (.ref 70) (ok_c hn 0 (by decide) rfl) (by decide) rfl ingX8 (by decide) wd_340 rfl dX8_find_55 ?_
                  refine J_iload_n (pc := 58) (x := x1) dX8_find_58 rfl ?_
                  refine J_iload_n (pc := 59) (x := x2) dX8_find_59 rfl ?_
                  refine J_iload_n (pc := 60) (x := x3) dX8_find_60 rfl ?_
                  refine J_iload (pc := 61) (x := x4) dX8_find_61 rfl ?_
                  refine J_iload (pc := 63) (x := x5) dX8_find_63 rfl ?_
                  refine J_callVi (pc := 65) (t := 2) (as := [.int x1, .int x2, .int x3, .int x4, .int x5]) (st := []) (c_X2_firstWith hG hn x1 x2 x3 x4 x5 I3) (ok_c hn 70 (by decide) rfl) (by decide) rfl (cw_RX8_192 rfl) wd_356 wd_355 rfl ⟨Nat.le_of_ble_eq_true rfl, Nat.le_of_ble_eq_true rfl, Nat.le_of_ble_eq_true rfl, Nat.le_of_ble_eq_true rfl⟩ (Nat.le_of_ble_eq_true rfl) rfl dX8_find_65 (fun r6 I5 => ?_)
                  exact J_iret (pc := 68) dX8_find_68
                · refine J_iconst (pc := 52) (v := (-1 : Int32)) dX8_find_52 (by decide) ?_
                  exact J_iret (pc := 53) dX8_find_53
abbrev mu_X5_markOf (G : Gt) : Mt (Int32 × Mem) := mi G cX5_markOf 2 yX5_markOf.cls (some .int) 0 0
def f_X5_markOf (a0 : Nat) (x1 : Int32) (I : Mem) : Option (Int32 × Mem) :=
  ck (inb x1 16) <| ck (inb x1 16) <| some ((((((I a0 0) * (64 : Int32)) + (I (a0 + 1) (tn x1))) * (2 : Int32)) + (I (a0 + 2) (tn x1))), I)
set_option maxRecDepth 100000 in
theorem c_X5_markOf {G : Gt} (hG : Gok G) (hn : Gn G) (a0 : Nat) (x1 : Int32) (o0 : ok G a0 5) (I : Mem) : Cti G yX5_markOf cX5_markOf 2 (some .int) 0 0 [.ref a0, .int x1] I (f_X5_markOf a0 x1 I) := by
  refine Cti.of (ls := [some (.ref a0), some (.int x1)]) 0 hG (by decide) rfl (Nat.le_of_ble_eq_true rfl) ?_
  unfold f_X5_markOf
  refine J_aload_n (pc := 0) (x := a0) dX5_markOf_0 rfl ?_
  refine J_get (pc := 1) (t := 5) (k := 0) (.int (I a0 0)) o0 (by decide) rfl ingX5 (by decide) wd_90 rfl dX5_markOf_1 ?_
  refine J_bipush (pc := 4) (v := (64 : Int32)) dX5_markOf_4 (by decide) ?_
  refine J_imul (pc := 6) dX5_markOf_6 ?_
  refine J_aload_n (pc := 7) (x := a0) dX5_markOf_7 rfl ?_
  refine J_get (pc := 8) (t := 5) (k := 3) (.ref (a0 + 1)) o0 (by decide) rfl ingX5 (by decide) wd_140 rfl dX5_markOf_8 ?_
  refine J_iload_n (pc := 11) (x := x1) dX5_markOf_11 rfl ?_
  refine J_ck (fun hc1 => ?_)
  refine J_ild (pc := 12) (t := 18) (k := (tn x1)) (okf_5_1 hn o0) iT_18 (inb_in hc1) rfl dX5_markOf_12 ?_
  refine J_iadd (pc := 13) dX5_markOf_13 ?_
  refine J_iconst (pc := 14) (v := (2 : Int32)) dX5_markOf_14 (by decide) ?_
  refine J_imul (pc := 15) dX5_markOf_15 ?_
  refine J_aload_n (pc := 16) (x := a0) dX5_markOf_16 rfl ?_
  refine J_get (pc := 17) (t := 5) (k := 4) (.ref (a0 + 2)) o0 (by decide) rfl ingX5 (by decide) wd_145 rfl dX5_markOf_17 ?_
  refine J_iload_n (pc := 20) (x := x1) dX5_markOf_20 rfl ?_
  refine J_ck (fun hc2 => ?_)
  refine J_ild (pc := 21) (t := 19) (k := (tn x1)) (okf_5_2 hn o0) iT_19 (inb_in hc2) rfl dX5_markOf_21 ?_
  refine J_iadd (pc := 22) dX5_markOf_22 ?_
  exact J_iret (pc := 23) dX5_markOf_23
abbrev mu_X2_isTriedAlike_70_v5 (G : Gt) : Mt (Int32 × Mem) := mi G cX2_isTriedAlike 3 yX2_isTriedAlike.cls (some .boolean) 2 41
def b_X2_isTriedAlike_70_v5_2 (K29 : Mem → Option (Int32 × Mem)) (K37 : Mem → Option (Int32 × Mem)) (R : Nat → Int32 → Mem → Option (Int32 × Mem)) (a1 : Nat) (x2 : Int32) (I : Mem) : Option (Int32 × Mem) :=
  bI (f_X5_leaves 71 I) fun r2 I1 => (if r2 ≤ x2 then K37 I1 else bI (f_X5_markOf 71 x2 I1) fun r4 I3 => bI (f_X5_markOf a1 x2 I3) fun r6 I5 => (if r4 = r6 then R a1 (x2 + (1 : Int32)) I5 else K29 I5))
def l_X2_isTriedAlike_70_v5_2 (K29 : Mem → Option (Int32 × Mem)) (K37 : Mem → Option (Int32 × Mem)) : Nat → Nat → Int32 → Mem → Option (Int32 × Mem) := fx (b_X2_isTriedAlike_70_v5_2 K29 K37) (fun _ _ _ => none)
def f_X2_isTriedAlike_70_v5 (a1 : Nat) (I : Mem) : Option (Int32 × Mem) :=
  l_X2_isTriedAlike_70_v5_2 (fun I7 => some ((0 : Int32), I7)) (fun I8 => some ((1 : Int32), I8)) fuel a1 (0 : Int32) I
set_option maxRecDepth 100000 in
theorem tb_X2_isTriedAlike_70_v5_2 {G : Gt} (hG : Gok G) (hn : Gn G) {K29 : Mem → Option (Int32 × Mem)} (hK29 : ∀ (I : Mem), J G (mu_X2_isTriedAlike_70_v5 G) 29 [none, none, none] [] I (K29 I)) {K37 : Mem → Option (Int32 × Mem)} (hK37 : ∀ (I : Mem), J G (mu_X2_isTriedAlike_70_v5 G) 37 [none, none, none] [] I (K37 I)) {R : Nat → Int32 → Mem → Option (Int32 × Mem)} (hR : ∀ (a1 : Nat) (x2 : Int32) (o1 : ok G a1 5) (I : Mem), J G (mu_X2_isTriedAlike_70_v5 G) 2 [some (.ref 70), some (.ref a1), some (.int x2)] [] I (R a1 x2 I)) (a1 : Nat) (x2 : Int32) (o1 : ok G a1 5) (I : Mem) : J G (mu_X2_isTriedAlike_70_v5 G) 2 [some (.ref 70), some (.ref a1), some (.int x2)] [] I (b_X2_isTriedAlike_70_v5_2 K29 K37 R a1 x2 I) := by
  unfold b_X2_isTriedAlike_70_v5_2
  refine J_iload_n (pc := 2) (x := x2) dX2_isTriedAlike_2 rfl ?_
  refine J_aload_n (pc := 3) (x := 70) dX2_isTriedAlike_3 rfl ?_
  refine J_get (pc := 4) (t := 2) (k := 0) (.ref 71) (ok_c hn 70 (by decide) rfl) (by decide) rfl ingX2 (by decide) wd_347 rfl dX2_isTriedAlike_4 ?_
  refine J_callVi (pc := 7) (t := 5) (as := []) (st := [.int x2]) (c_X5_leaves hG hn 71 (ok_c hn 71 (by decide) rfl) I) (ok_c hn 71 (by decide) rfl) (by decide) rfl (cw_RX2_52 rfl) wd_97 wd_96 rfl ⟨Nat.le_of_ble_eq_true rfl, Nat.le_of_ble_eq_true rfl, Nat.le_of_ble_eq_true rfl, Nat.le_of_ble_eq_true rfl⟩ (Nat.le_of_ble_eq_true rfl) rfl dX2_isTriedAlike_7 (fun r2 I1 => ?_)
  refine J_icmp_ge (pc := 10) (tgt := 37) dX2_isTriedAlike_10 (by decide) ?_ ?_
  · refine J_weak (ls' := [none, none, none]) trivial ?_
    exact hK37 I1
  · refine J_aload_n (pc := 13) (x := 70) dX2_isTriedAlike_13 rfl ?_
    refine J_get (pc := 14) (t := 2) (k := 0) (.ref 71) (ok_c hn 70 (by decide) rfl) (by decide) rfl ingX2 (by decide) wd_347 rfl dX2_isTriedAlike_14 ?_
    refine J_iload_n (pc := 17) (x := x2) dX2_isTriedAlike_17 rfl ?_
    refine J_callVi (pc := 18) (t := 5) (as := [.int x2]) (st := []) (c_X5_markOf hG hn 71 x2 (ok_c hn 71 (by decide) rfl) I1) (ok_c hn 71 (by decide) rfl) (by decide) rfl (cw_RX2_56 rfl) wd_361 wd_360 rfl ⟨Nat.le_of_ble_eq_true rfl, Nat.le_of_ble_eq_true rfl, Nat.le_of_ble_eq_true rfl, Nat.le_of_ble_eq_true rfl⟩ (Nat.le_of_ble_eq_true rfl) rfl dX2_isTriedAlike_18 (fun r4 I3 => ?_)
    refine J_aload_n (pc := 21) (x := a1) dX2_isTriedAlike_21 rfl ?_
    refine J_iload_n (pc := 22) (x := x2) dX2_isTriedAlike_22 rfl ?_
    refine J_callVi (pc := 23) (t := 5) (as := [.int x2]) (st := [.int r4]) (c_X5_markOf hG hn a1 x2 o1 I3) o1 (by decide) rfl (cw_RX2_56 rfl) wd_361 wd_360 rfl ⟨Nat.le_of_ble_eq_true rfl, Nat.le_of_ble_eq_true rfl, Nat.le_of_ble_eq_true rfl, Nat.le_of_ble_eq_true rfl⟩ (Nat.le_of_ble_eq_true rfl) rfl dX2_isTriedAlike_23 (fun r6 I5 => ?_)
    refine J_icmp_eq (pc := 26) (tgt := 31) dX2_isTriedAlike_26 (by decide) ?_ ?_
    · refine J_iinc (pc := 31) (d := (1 : Int32)) (ls' := [some (.ref 70), some (.ref a1), some (.int (x2 + (1 : Int32)))]) dX2_isTriedAlike_31 (by decide) rfl (Nat.le_of_ble_eq_true rfl) rfl rfl ?_
      refine J_goto (pc := 34) (tgt := 2) dX2_isTriedAlike_34 (by decide) ?_
      exact hR a1 (x2 + (1 : Int32)) o1 I5
    · refine J_weak (ls' := [none, none, none]) trivial ?_
      exact hK29 I5
theorem tl_X2_isTriedAlike_70_v5_2 {G : Gt} (hG : Gok G) (hn : Gn G) {K29 : Mem → Option (Int32 × Mem)} (hK29 : ∀ (I : Mem), J G (mu_X2_isTriedAlike_70_v5 G) 29 [none, none, none] [] I (K29 I)) {K37 : Mem → Option (Int32 × Mem)} (hK37 : ∀ (I : Mem), J G (mu_X2_isTriedAlike_70_v5 G) 37 [none, none, none] [] I (K37 I)) (n : Nat) : ∀ (a1 : Nat) (x2 : Int32) (o1 : ok G a1 5) (I : Mem), J G (mu_X2_isTriedAlike_70_v5 G) 2 [some (.ref 70), some (.ref a1), some (.int x2)] [] I (l_X2_isTriedAlike_70_v5_2 K29 K37 n a1 x2 I) := by
  induction n with
  | zero => intro a1 x2 o1 I; exact J_none
  | succ n ih => intro a1 x2 o1 I; exact tb_X2_isTriedAlike_70_v5_2 hG hn hK29 hK37 ih a1 x2 o1 I
set_option maxRecDepth 100000 in
theorem c_X2_isTriedAlike_70_v5 {G : Gt} (hG : Gok G) (hn : Gn G) (a1 : Nat) (o1 : ok G a1 5) (I : Mem) : Cti G yX2_isTriedAlike cX2_isTriedAlike 3 (some .boolean) 2 41 [.ref 70, .ref a1] I (f_X2_isTriedAlike_70_v5 a1 I) := by
  refine Cti.of (ls := [some (.ref 70), some (.ref a1), none]) 1 hG (by decide) rfl (Nat.le_of_ble_eq_true rfl) ?_
  unfold f_X2_isTriedAlike_70_v5
  refine J_iconst (pc := 0) (v := (0 : Int32)) dX2_isTriedAlike_0 (by decide) ?_
  refine J_istore_n (pc := 1) (ls' := [some (.ref 70), some (.ref a1), some (.int (0 : Int32))]) dX2_isTriedAlike_1 (Nat.le_of_ble_eq_true rfl) rfl rfl ?_
  refine tl_X2_isTriedAlike_70_v5_2 hG hn (fun I7 => ?_) (fun I8 => ?_) fuel a1 (0 : Int32) o1 I
  · refine J_iconst (pc := 29) (v := (0 : Int32)) dX2_isTriedAlike_29 (by decide) ?_
    exact J_zret (pc := 30) rfl dX2_isTriedAlike_30
  · refine J_iconst (pc := 37) (v := (1 : Int32)) dX2_isTriedAlike_37 (by decide) ?_
    exact J_zret (pc := 38) rfl dX2_isTriedAlike_38
abbrev mu_X2_alikeTo_70_v5 (G : Gt) : Mt (Int32 × Mem) := mi G cX2_alikeTo 5 yX2_alikeTo.cls (some .int) 5 116
def b_X2_alikeTo_70_v5_5 (K41 : Int32 → Mem → Option (Int32 × Mem)) (R : Nat → Int32 → Int32 → Int32 → Mem → Option (Int32 × Mem)) (a1 : Nat) (x2 : Int32) (x3 : Int32) (x4 : Int32) (I : Mem) : Option (Int32 × Mem) :=
  bI (f_X2_codesOf x2 I) fun r2 I1 => (if r2 ≤ x4 then K41 x3 I1 else bI (f_X2_isTried x2 x4 I1) fun r4 I3 => (if r4 = 0 then R a1 x2 x3 (x4 + (1 : Int32)) I3 else bI (f_X2_isTriedAlike_70_v5 a1 I3) fun r6 I5 => (if r6 = 0 then R a1 x2 x3 (x4 + (1 : Int32)) I5 else R a1 x2 (x3 + (1 : Int32)) (x4 + (1 : Int32)) I5)))
def l_X2_alikeTo_70_v5_5 (K41 : Int32 → Mem → Option (Int32 × Mem)) : Nat → Nat → Int32 → Int32 → Int32 → Mem → Option (Int32 × Mem) := fx (b_X2_alikeTo_70_v5_5 K41) (fun _ _ _ _ _ => none)
def f_X2_alikeTo_70_v5 (a1 : Nat) (x2 : Int32) (I : Mem) : Option (Int32 × Mem) :=
  l_X2_alikeTo_70_v5_5 (fun (z7 : Int32) I8 => some (z7, I8)) fuel a1 x2 (0 : Int32) (0 : Int32) I
set_option maxRecDepth 100000 in
theorem tb_X2_alikeTo_70_v5_5 {G : Gt} (hG : Gok G) (hn : Gn G) {K41 : Int32 → Mem → Option (Int32 × Mem)} (hK41 : ∀ (x3 : Int32) (I : Mem), J G (mu_X2_alikeTo_70_v5 G) 41 [none, none, none, some (.int x3), none] [] I (K41 x3 I)) {R : Nat → Int32 → Int32 → Int32 → Mem → Option (Int32 × Mem)} (hR : ∀ (a1 : Nat) (x2 : Int32) (x3 : Int32) (x4 : Int32) (o1 : ok G a1 5) (I : Mem), J G (mu_X2_alikeTo_70_v5 G) 5 [some (.ref 70), some (.ref a1), some (.int x2), some (.int x3), some (.int x4)] [] I (R a1 x2 x3 x4 I)) (a1 : Nat) (x2 : Int32) (x3 : Int32) (x4 : Int32) (o1 : ok G a1 5) (I : Mem) : J G (mu_X2_alikeTo_70_v5 G) 5 [some (.ref 70), some (.ref a1), some (.int x2), some (.int x3), some (.int x4)] [] I (b_X2_alikeTo_70_v5_5 K41 R a1 x2 x3 x4 I) := by
  unfold b_X2_alikeTo_70_v5_5
  refine J_iload (pc := 5) (x := x4) dX2_alikeTo_5 rfl ?_
  refine J_iload_n (pc := 7) (x := x2) dX2_alikeTo_7 rfl ?_
  refine J_callSi (pc := 8) (as := [.int x2]) (st := [.int x4]) (c_X2_codesOf hG hn x2 I) (cw_RX2_34 rfl) wd_341 rfl ⟨Nat.le_of_ble_eq_true rfl, Nat.le_of_ble_eq_true rfl, Nat.le_of_ble_eq_true rfl, Nat.le_of_ble_eq_true rfl⟩ (Nat.le_of_ble_eq_true rfl) rfl dX2_alikeTo_8 (fun r2 I1 => ?_)
  refine J_icmp_ge (pc := 11) (tgt := 41) dX2_alikeTo_11 (by decide) ?_ ?_
  · refine J_weak (ls' := [none, none, none, some (.int x3), none]) ⟨rfl, trivial⟩ ?_
    exact hK41 x3 I1
  · refine J_aload_n (pc := 14) (x := 70) dX2_alikeTo_14 rfl ?_
    refine J_iload_n (pc := 15) (x := x2) dX2_alikeTo_15 rfl ?_
    refine J_iload (pc := 16) (x := x4) dX2_alikeTo_16 rfl ?_
    refine J_callVi (pc := 18) (t := 2) (as := [.int x2, .int x4]) (st := []) (c_X2_isTried hG hn x2 x4 I1) (ok_c hn 70 (by decide) rfl) (by decide) rfl (cw_RX2_37 rfl) wd_350 wd_349 rfl ⟨Nat.le_of_ble_eq_true rfl, Nat.le_of_ble_eq_true rfl, Nat.le_of_ble_eq_true rfl, Nat.le_of_ble_eq_true rfl⟩ (Nat.le_of_ble_eq_true rfl) rfl dX2_alikeTo_18 (fun r4 I3 => ?_)
    refine J_if_eq (pc := 21) (tgt := 35) dX2_alikeTo_21 (by decide) ?_ ?_
    · refine J_iinc (pc := 35) (d := (1 : Int32)) (ls' := [some (.ref 70), some (.ref a1), some (.int x2), some (.int x3), some (.int (x4 + (1 : Int32)))]) dX2_alikeTo_35 (by decide) rfl (Nat.le_of_ble_eq_true rfl) rfl rfl ?_
      refine J_goto (pc := 38) (tgt := 5) dX2_alikeTo_38 (by decide) ?_
      exact hR a1 x2 x3 (x4 + (1 : Int32)) o1 I3
    · refine J_aload_n (pc := 24) (x := 70) dX2_alikeTo_24 rfl ?_
      refine J_aload_n (pc := 25) (x := a1) dX2_alikeTo_25 rfl ?_
      refine J_callVi (pc := 26) (t := 2) (as := [.ref a1]) (st := []) (c_X2_isTriedAlike_70_v5 hG hn a1 o1 I3) (ok_c hn 70 (by decide) rfl) (by decide) rfl (cw_RX2_48 rfl) wd_365 wd_364 rfl ⟨Nat.le_of_ble_eq_true rfl, Nat.le_of_ble_eq_true rfl, Nat.le_of_ble_eq_true rfl, Nat.le_of_ble_eq_true rfl⟩ (Nat.le_of_ble_eq_true rfl) rfl dX2_alikeTo_26 (fun r6 I5 => ?_)
      refine J_if_eq (pc := 29) (tgt := 35) dX2_alikeTo_29 (by decide) ?_ ?_
      · refine J_iinc (pc := 35) (d := (1 : Int32)) (ls' := [some (.ref 70), some (.ref a1), some (.int x2), some (.int x3), some (.int (x4 + (1 : Int32)))]) dX2_alikeTo_35 (by decide) rfl (Nat.le_of_ble_eq_true rfl) rfl rfl ?_
        refine J_goto (pc := 38) (tgt := 5) dX2_alikeTo_38 (by decide) ?_
        exact hR a1 x2 x3 (x4 + (1 : Int32)) o1 I5
      · refine J_iinc (pc := 32) (d := (1 : Int32)) (ls' := [some (.ref 70), some (.ref a1), some (.int x2), some (.int (x3 + (1 : Int32))), some (.int x4)]) dX2_alikeTo_32 (by decide) rfl (Nat.le_of_ble_eq_true rfl) rfl rfl ?_
        refine J_iinc (pc := 35) (d := (1 : Int32)) (ls' := [some (.ref 70), some (.ref a1), some (.int x2), some (.int (x3 + (1 : Int32))), some (.int (x4 + (1 : Int32)))]) dX2_alikeTo_35 (by decide) rfl (Nat.le_of_ble_eq_true rfl) rfl rfl ?_
        refine J_goto (pc := 38) (tgt := 5) dX2_alikeTo_38 (by decide) ?_
        exact hR a1 x2 (x3 + (1 : Int32)) (x4 + (1 : Int32)) o1 I5
theorem tl_X2_alikeTo_70_v5_5 {G : Gt} (hG : Gok G) (hn : Gn G) {K41 : Int32 → Mem → Option (Int32 × Mem)} (hK41 : ∀ (x3 : Int32) (I : Mem), J G (mu_X2_alikeTo_70_v5 G) 41 [none, none, none, some (.int x3), none] [] I (K41 x3 I)) (n : Nat) : ∀ (a1 : Nat) (x2 : Int32) (x3 : Int32) (x4 : Int32) (o1 : ok G a1 5) (I : Mem), J G (mu_X2_alikeTo_70_v5 G) 5 [some (.ref 70), some (.ref a1), some (.int x2), some (.int x3), some (.int x4)] [] I (l_X2_alikeTo_70_v5_5 K41 n a1 x2 x3 x4 I) := by
  induction n with
  | zero => intro a1 x2 x3 x4 o1 I; exact J_none
  | succ n ih => intro a1 x2 x3 x4 o1 I; exact tb_X2_alikeTo_70_v5_5 hG hn hK41 ih a1 x2 x3 x4 o1 I
set_option maxRecDepth 100000 in
theorem c_X2_alikeTo_70_v5 {G : Gt} (hG : Gok G) (hn : Gn G) (a1 : Nat) (x2 : Int32) (o1 : ok G a1 5) (I : Mem) : Cti G yX2_alikeTo cX2_alikeTo 5 (some .int) 5 116 [.ref 70, .ref a1, .int x2] I (f_X2_alikeTo_70_v5 a1 x2 I) := by
  refine Cti.of (ls := [some (.ref 70), some (.ref a1), some (.int x2), none, none]) 2 hG (by decide) rfl (Nat.le_of_ble_eq_true rfl) ?_
  unfold f_X2_alikeTo_70_v5
  refine J_iconst (pc := 0) (v := (0 : Int32)) dX2_alikeTo_0 (by decide) ?_
  refine J_istore_n (pc := 1) (ls' := [some (.ref 70), some (.ref a1), some (.int x2), some (.int (0 : Int32)), none]) dX2_alikeTo_1 (Nat.le_of_ble_eq_true rfl) rfl rfl ?_
  refine J_iconst (pc := 2) (v := (0 : Int32)) dX2_alikeTo_2 (by decide) ?_
  refine J_istore (pc := 3) (ls' := [some (.ref 70), some (.ref a1), some (.int x2), some (.int (0 : Int32)), some (.int (0 : Int32))]) dX2_alikeTo_3 (Nat.le_of_ble_eq_true rfl) rfl rfl ?_
  refine tl_X2_alikeTo_70_v5_5 hG hn (fun z7 I8 => ?_) fuel a1 x2 (0 : Int32) (0 : Int32) o1 I
  · refine J_iload_n (pc := 41) (x := z7) dX2_alikeTo_41 rfl ?_
    exact J_iret (pc := 42) dX2_alikeTo_42
abbrev mu_X8_alike (G : Gt) : Mt (Int32 × Mem) := mi G cX8_alike 2 yX8_alike.cls (some .int) 6 140
def f_X8_alike (x1 : Int32) (I : Mem) : Option (Int32 × Mem) :=
  bI (f_X8_isScheme x1 I) fun r2 I1 => (if r2 = 0 then some ((-1 : Int32), I1) else ck (inb x1 4) <| ck (inb x1 4) <| bI (f_X2_alikeTo_70_v5 (54 + 4 * (tn x1)) (I1 5 (tn x1)) I1) fun r6 I5 => some (r6, I5))
set_option maxRecDepth 100000 in
theorem c_X8_alike {G : Gt} (hG : Gok G) (hn : Gn G) (x1 : Int32) (I : Mem) : Cti G yX8_alike cX8_alike 2 (some .int) 6 140 [.ref 0, .int x1] I (f_X8_alike x1 I) := by
  refine Cti.of (ls := [some (.ref 0), some (.int x1)]) 0 hG (by decide) rfl (Nat.le_of_ble_eq_true rfl) ?_
  unfold f_X8_alike
  refine J_aload_n (pc := 0) (x := 0) dX8_alike_0 rfl ?_
  refine J_iload_n (pc := 1) (x := x1) dX8_alike_1 rfl ?_
  refine J_callVi (pc := 2) (t := 8) (as := [.int x1]) (st := []) (c_X8_isScheme hG hn x1 I) (ok_c hn 0 (by decide) rfl) (by decide) rfl (cw_RX8_104 rfl) wd_257 wd_256 rfl ⟨Nat.le_of_ble_eq_true rfl, Nat.le_of_ble_eq_true rfl, Nat.le_of_ble_eq_true rfl, Nat.le_of_ble_eq_true rfl⟩ (Nat.le_of_ble_eq_true rfl) rfl dX8_alike_2 (fun r2 I1 => ?_)
  refine J_if_ne (pc := 5) (tgt := 10) dX8_alike_5 (by decide) ?_ ?_
  · refine J_iconst (pc := 8) (v := (-1 : Int32)) dX8_alike_8 (by decide) ?_
    exact J_iret (pc := 9) dX8_alike_9
  · refine J_aload_n (pc := 10) (x := 0) dX8_alike_10 rfl ?_
    refine J_get (pc := 11) (t := 8) (k := 5) (.ref 70) (ok_c hn 0 (by decide) rfl) (by decide) rfl ingX8 (by decide) wd_340 rfl dX8_alike_11 ?_
    refine J_aload_n (pc := 14) (x := 0) dX8_alike_14 rfl ?_
    refine J_get (pc := 15) (t := 8) (k := 4) (.ref 53) (ok_c hn 0 (by decide) rfl) (by decide) rfl ingX8 (by decide) wd_82 rfl dX8_alike_15 ?_
    refine J_iload_n (pc := 18) (x := x1) dX8_alike_18 rfl ?_
    refine J_ck (fun hc3 => ?_)
    refine J_sald (pc := 19) (ok_c hn 53 (by decide) rfl) (inb_in hc3) dX8_alike_19 ?_
    refine J_aload_n (pc := 20) (x := 0) dX8_alike_20 rfl ?_
    refine J_get (pc := 21) (t := 8) (k := 1) (.ref 3) (ok_c hn 0 (by decide) rfl) (by decide) rfl ingX8 (by decide) wd_72 rfl dX8_alike_21 ?_
    refine J_get (pc := 24) (t := 7) (k := 2) (.ref 5) (ok_c hn 3 (by decide) rfl) (by decide) rfl ingX7 (by decide) wd_83 rfl dX8_alike_24 ?_
    refine J_iload_n (pc := 27) (x := x1) dX8_alike_27 rfl ?_
    refine J_ck (fun hc4 => ?_)
    refine J_ild (pc := 28) (t := 12) (k := (tn x1)) (ok_c hn 5 (by decide) rfl) iT_12 (inb_in hc4) rfl dX8_alike_28 ?_
    refine J_callVi (pc := 29) (t := 2) (as := [.ref (54 + 4 * (tn x1)), .int (I1 5 (tn x1))]) (st := []) (c_X2_alikeTo_70_v5 hG hn (54 + 4 * (tn x1)) (I1 5 (tn x1)) (ok_sheet hn hc3) I1) (ok_c hn 70 (by decide) rfl) (by decide) rfl (cw_RX8_196 rfl) wd_369 wd_368 rfl ⟨Nat.le_of_ble_eq_true rfl, Nat.le_of_ble_eq_true rfl, Nat.le_of_ble_eq_true rfl, Nat.le_of_ble_eq_true rfl⟩ (Nat.le_of_ble_eq_true rfl) rfl dX8_alike_29 (fun r6 I5 => ?_)
    exact J_iret (pc := 32) dX8_alike_32
abbrev mu_X2_keepMarks (G : Gt) : Mt Mem := mv G cX2_keepMarks 3 yX2_keepMarks.cls 2 41
def b_X2_keepMarks_2 (K38 : Mem → Option Mem) (R : Int32 → Int32 → Mem → Option Mem) (x1 : Int32) (x2 : Int32) (I : Mem) : Option Mem :=
  bI (f_X5_leaves 71 I) fun r2 I1 => (if r2 ≤ x2 then K38 I1 else bI (f_X5_markOf 71 x2 I1) fun r4 I3 => ck (inb ((x1 * (16 : Int32)) + x2) 2048) <| R x1 (x2 + (1 : Int32)) (stm I3 75 (tn ((x1 * (16 : Int32)) + x2)) r4))
def l_X2_keepMarks_2 (K38 : Mem → Option Mem) : Nat → Int32 → Int32 → Mem → Option Mem := fx (b_X2_keepMarks_2 K38) (fun _ _ _ => none)
def f_X2_keepMarks (x1 : Int32) (I : Mem) : Option Mem :=
  l_X2_keepMarks_2 (fun I6 => some I6) fuel x1 (0 : Int32) I
set_option maxRecDepth 100000 in
theorem tb_X2_keepMarks_2 {G : Gt} (hG : Gok G) (hn : Gn G) {K38 : Mem → Option Mem} (hK38 : ∀ (I : Mem), J G (mu_X2_keepMarks G) 38 [none, none, none] [] I (K38 I)) {R : Int32 → Int32 → Mem → Option Mem} (hR : ∀ (x1 : Int32) (x2 : Int32) (I : Mem), J G (mu_X2_keepMarks G) 2 [some (.ref 70), some (.int x1), some (.int x2)] [] I (R x1 x2 I)) (x1 : Int32) (x2 : Int32) (I : Mem) : J G (mu_X2_keepMarks G) 2 [some (.ref 70), some (.int x1), some (.int x2)] [] I (b_X2_keepMarks_2 K38 R x1 x2 I) := by
  unfold b_X2_keepMarks_2
  refine J_iload_n (pc := 2) (x := x2) dX2_keepMarks_2 rfl ?_
  refine J_aload_n (pc := 3) (x := 70) dX2_keepMarks_3 rfl ?_
  refine J_get (pc := 4) (t := 2) (k := 0) (.ref 71) (ok_c hn 70 (by decide) rfl) (by decide) rfl ingX2 (by decide) wd_347 rfl dX2_keepMarks_4 ?_
  refine J_callVi (pc := 7) (t := 5) (as := []) (st := [.int x2]) (c_X5_leaves hG hn 71 (ok_c hn 71 (by decide) rfl) I) (ok_c hn 71 (by decide) rfl) (by decide) rfl (cw_RX2_52 rfl) wd_97 wd_96 rfl ⟨Nat.le_of_ble_eq_true rfl, Nat.le_of_ble_eq_true rfl, Nat.le_of_ble_eq_true rfl, Nat.le_of_ble_eq_true rfl⟩ (Nat.le_of_ble_eq_true rfl) rfl dX2_keepMarks_7 (fun r2 I1 => ?_)
  refine J_icmp_ge (pc := 10) (tgt := 38) dX2_keepMarks_10 (by decide) ?_ ?_
  · refine J_weak (ls' := [none, none, none]) trivial ?_
    exact hK38 I1
  · refine J_aload_n (pc := 13) (x := 70) dX2_keepMarks_13 rfl ?_
    refine J_get (pc := 14) (t := 2) (k := 1) (.ref 75) (ok_c hn 70 (by decide) rfl) (by decide) rfl ingX2 (by decide) wd_372 rfl dX2_keepMarks_14 ?_
    refine J_iload_n (pc := 17) (x := x1) dX2_keepMarks_17 rfl ?_
    refine J_bipush (pc := 18) (v := (16 : Int32)) dX2_keepMarks_18 (by decide) ?_
    refine J_imul (pc := 20) dX2_keepMarks_20 ?_
    refine J_iload_n (pc := 21) (x := x2) dX2_keepMarks_21 rfl ?_
    refine J_iadd (pc := 22) dX2_keepMarks_22 ?_
    refine J_aload_n (pc := 23) (x := 70) dX2_keepMarks_23 rfl ?_
    refine J_get (pc := 24) (t := 2) (k := 0) (.ref 71) (ok_c hn 70 (by decide) rfl) (by decide) rfl ingX2 (by decide) wd_347 rfl dX2_keepMarks_24 ?_
    refine J_iload_n (pc := 27) (x := x2) dX2_keepMarks_27 rfl ?_
    refine J_callVi (pc := 28) (t := 5) (as := [.int x2]) (st := [.int ((x1 * (16 : Int32)) + x2), .ref 75]) (c_X5_markOf hG hn 71 x2 (ok_c hn 71 (by decide) rfl) I1) (ok_c hn 71 (by decide) rfl) (by decide) rfl (cw_RX2_56 rfl) wd_361 wd_360 rfl ⟨Nat.le_of_ble_eq_true rfl, Nat.le_of_ble_eq_true rfl, Nat.le_of_ble_eq_true rfl, Nat.le_of_ble_eq_true rfl⟩ (Nat.le_of_ble_eq_true rfl) rfl dX2_keepMarks_28 (fun r4 I3 => ?_)
    refine J_ck (fun hc5 => ?_)
    refine J_ist (pc := 31) (t := 20) (k := (tn ((x1 * (16 : Int32)) + x2))) (ok_c hn 75 (by decide) rfl) iT_20 (inb_in hc5) rfl dX2_keepMarks_31 ?_
    refine J_iinc (pc := 32) (d := (1 : Int32)) (ls' := [some (.ref 70), some (.int x1), some (.int (x2 + (1 : Int32)))]) dX2_keepMarks_32 (by decide) rfl (Nat.le_of_ble_eq_true rfl) rfl rfl ?_
    refine J_goto (pc := 35) (tgt := 2) dX2_keepMarks_35 (by decide) ?_
    exact hR x1 (x2 + (1 : Int32)) (stm I3 75 (tn ((x1 * (16 : Int32)) + x2)) r4)
theorem tl_X2_keepMarks_2 {G : Gt} (hG : Gok G) (hn : Gn G) {K38 : Mem → Option Mem} (hK38 : ∀ (I : Mem), J G (mu_X2_keepMarks G) 38 [none, none, none] [] I (K38 I)) (n : Nat) : ∀ (x1 : Int32) (x2 : Int32) (I : Mem), J G (mu_X2_keepMarks G) 2 [some (.ref 70), some (.int x1), some (.int x2)] [] I (l_X2_keepMarks_2 K38 n x1 x2 I) := by
  induction n with
  | zero => intro x1 x2 I; exact J_none
  | succ n ih => intro x1 x2 I; exact tb_X2_keepMarks_2 hG hn hK38 ih x1 x2 I
set_option maxRecDepth 100000 in
theorem c_X2_keepMarks {G : Gt} (hG : Gok G) (hn : Gn G) (x1 : Int32) (I : Mem) : Ctv G yX2_keepMarks cX2_keepMarks 3 2 41 [.ref 70, .int x1] I (f_X2_keepMarks x1 I) := by
  refine Ctv.of (ls := [some (.ref 70), some (.int x1), none]) 1 hG (by decide) rfl (Nat.le_of_ble_eq_true rfl) ?_
  unfold f_X2_keepMarks
  refine J_iconst (pc := 0) (v := (0 : Int32)) dX2_keepMarks_0 (by decide) ?_
  refine J_istore_n (pc := 1) (ls' := [some (.ref 70), some (.int x1), some (.int (0 : Int32))]) dX2_keepMarks_1 (Nat.le_of_ble_eq_true rfl) rfl rfl ?_
  refine tl_X2_keepMarks_2 hG hn (fun I6 => ?_) fuel x1 (0 : Int32) I
  · exact J_vret (pc := 38) dX2_keepMarks_38
abbrev mu_X2_haveSameMarks (G : Gt) : Mt (Int32 × Mem) := mi G cX2_haveSameMarks 4 yX2_haveSameMarks.cls (some .boolean) 2 41
def b_X2_haveSameMarks_2 (K38 : Mem → Option (Int32 × Mem)) (K46 : Mem → Option (Int32 × Mem)) (R : Int32 → Int32 → Int32 → Mem → Option (Int32 × Mem)) (x1 : Int32) (x2 : Int32) (x3 : Int32) (I : Mem) : Option (Int32 × Mem) :=
  bI (f_X5_leaves 71 I) fun r2 I1 => (if r2 ≤ x3 then K46 I1 else ck (inb ((x1 * (16 : Int32)) + x3) 2048) <| ck (inb ((x2 * (16 : Int32)) + x3) 2048) <| (if (I1 75 (tn ((x1 * (16 : Int32)) + x3))) = (I1 75 (tn ((x2 * (16 : Int32)) + x3))) then R x1 x2 (x3 + (1 : Int32)) I1 else K38 I1))
def l_X2_haveSameMarks_2 (K38 : Mem → Option (Int32 × Mem)) (K46 : Mem → Option (Int32 × Mem)) : Nat → Int32 → Int32 → Int32 → Mem → Option (Int32 × Mem) := fx (b_X2_haveSameMarks_2 K38 K46) (fun _ _ _ _ => none)
def f_X2_haveSameMarks (x1 : Int32) (x2 : Int32) (I : Mem) : Option (Int32 × Mem) :=
  l_X2_haveSameMarks_2 (fun I5 => some ((0 : Int32), I5)) (fun I6 => some ((1 : Int32), I6)) fuel x1 x2 (0 : Int32) I
set_option maxRecDepth 100000 in
theorem tb_X2_haveSameMarks_2 {G : Gt} (hG : Gok G) (hn : Gn G) {K38 : Mem → Option (Int32 × Mem)} (hK38 : ∀ (I : Mem), J G (mu_X2_haveSameMarks G) 38 [none, none, none, none] [] I (K38 I)) {K46 : Mem → Option (Int32 × Mem)} (hK46 : ∀ (I : Mem), J G (mu_X2_haveSameMarks G) 46 [none, none, none, none] [] I (K46 I)) {R : Int32 → Int32 → Int32 → Mem → Option (Int32 × Mem)} (hR : ∀ (x1 : Int32) (x2 : Int32) (x3 : Int32) (I : Mem), J G (mu_X2_haveSameMarks G) 2 [some (.ref 70), some (.int x1), some (.int x2), some (.int x3)] [] I (R x1 x2 x3 I)) (x1 : Int32) (x2 : Int32) (x3 : Int32) (I : Mem) : J G (mu_X2_haveSameMarks G) 2 [some (.ref 70), some (.int x1), some (.int x2), some (.int x3)] [] I (b_X2_haveSameMarks_2 K38 K46 R x1 x2 x3 I) := by
  unfold b_X2_haveSameMarks_2
  refine J_iload_n (pc := 2) (x := x3) dX2_haveSameMarks_2 rfl ?_
  refine J_aload_n (pc := 3) (x := 70) dX2_haveSameMarks_3 rfl ?_
  refine J_get (pc := 4) (t := 2) (k := 0) (.ref 71) (ok_c hn 70 (by decide) rfl) (by decide) rfl ingX2 (by decide) wd_347 rfl dX2_haveSameMarks_4 ?_
  refine J_callVi (pc := 7) (t := 5) (as := []) (st := [.int x3]) (c_X5_leaves hG hn 71 (ok_c hn 71 (by decide) rfl) I) (ok_c hn 71 (by decide) rfl) (by decide) rfl (cw_RX2_52 rfl) wd_97 wd_96 rfl ⟨Nat.le_of_ble_eq_true rfl, Nat.le_of_ble_eq_true rfl, Nat.le_of_ble_eq_true rfl, Nat.le_of_ble_eq_true rfl⟩ (Nat.le_of_ble_eq_true rfl) rfl dX2_haveSameMarks_7 (fun r2 I1 => ?_)
  refine J_icmp_ge (pc := 10) (tgt := 46) dX2_haveSameMarks_10 (by decide) ?_ ?_
  · refine J_weak (ls' := [none, none, none, none]) trivial ?_
    exact hK46 I1
  · refine J_aload_n (pc := 13) (x := 70) dX2_haveSameMarks_13 rfl ?_
    refine J_get (pc := 14) (t := 2) (k := 1) (.ref 75) (ok_c hn 70 (by decide) rfl) (by decide) rfl ingX2 (by decide) wd_372 rfl dX2_haveSameMarks_14 ?_
    refine J_iload_n (pc := 17) (x := x1) dX2_haveSameMarks_17 rfl ?_
    refine J_bipush (pc := 18) (v := (16 : Int32)) dX2_haveSameMarks_18 (by decide) ?_
    refine J_imul (pc := 20) dX2_haveSameMarks_20 ?_
    refine J_iload_n (pc := 21) (x := x3) dX2_haveSameMarks_21 rfl ?_
    refine J_iadd (pc := 22) dX2_haveSameMarks_22 ?_
    refine J_ck (fun hc3 => ?_)
    refine J_ild (pc := 23) (t := 20) (k := (tn ((x1 * (16 : Int32)) + x3))) (ok_c hn 75 (by decide) rfl) iT_20 (inb_in hc3) rfl dX2_haveSameMarks_23 ?_
    refine J_aload_n (pc := 24) (x := 70) dX2_haveSameMarks_24 rfl ?_
    refine J_get (pc := 25) (t := 2) (k := 1) (.ref 75) (ok_c hn 70 (by decide) rfl) (by decide) rfl ingX2 (by decide) wd_372 rfl dX2_haveSameMarks_25 ?_
    refine J_iload_n (pc := 28) (x := x2) dX2_haveSameMarks_28 rfl ?_
    refine J_bipush (pc := 29) (v := (16 : Int32)) dX2_haveSameMarks_29 (by decide) ?_
    refine J_imul (pc := 31) dX2_haveSameMarks_31 ?_
    refine J_iload_n (pc := 32) (x := x3) dX2_haveSameMarks_32 rfl ?_
    refine J_iadd (pc := 33) dX2_haveSameMarks_33 ?_
    refine J_ck (fun hc4 => ?_)
    refine J_ild (pc := 34) (t := 20) (k := (tn ((x2 * (16 : Int32)) + x3))) (ok_c hn 75 (by decide) rfl) iT_20 (inb_in hc4) rfl dX2_haveSameMarks_34 ?_
    refine J_icmp_eq (pc := 35) (tgt := 40) dX2_haveSameMarks_35 (by decide) ?_ ?_
    · refine J_iinc (pc := 40) (d := (1 : Int32)) (ls' := [some (.ref 70), some (.int x1), some (.int x2), some (.int (x3 + (1 : Int32)))]) dX2_haveSameMarks_40 (by decide) rfl (Nat.le_of_ble_eq_true rfl) rfl rfl ?_
      refine J_goto (pc := 43) (tgt := 2) dX2_haveSameMarks_43 (by decide) ?_
      exact hR x1 x2 (x3 + (1 : Int32)) I1
    · refine J_weak (ls' := [none, none, none, none]) trivial ?_
      exact hK38 I1
theorem tl_X2_haveSameMarks_2 {G : Gt} (hG : Gok G) (hn : Gn G) {K38 : Mem → Option (Int32 × Mem)} (hK38 : ∀ (I : Mem), J G (mu_X2_haveSameMarks G) 38 [none, none, none, none] [] I (K38 I)) {K46 : Mem → Option (Int32 × Mem)} (hK46 : ∀ (I : Mem), J G (mu_X2_haveSameMarks G) 46 [none, none, none, none] [] I (K46 I)) (n : Nat) : ∀ (x1 : Int32) (x2 : Int32) (x3 : Int32) (I : Mem), J G (mu_X2_haveSameMarks G) 2 [some (.ref 70), some (.int x1), some (.int x2), some (.int x3)] [] I (l_X2_haveSameMarks_2 K38 K46 n x1 x2 x3 I) := by
  induction n with
  | zero => intro x1 x2 x3 I; exact J_none
  | succ n ih => intro x1 x2 x3 I; exact tb_X2_haveSameMarks_2 hG hn hK38 hK46 ih x1 x2 x3 I
set_option maxRecDepth 100000 in
theorem c_X2_haveSameMarks {G : Gt} (hG : Gok G) (hn : Gn G) (x1 : Int32) (x2 : Int32) (I : Mem) : Cti G yX2_haveSameMarks cX2_haveSameMarks 4 (some .boolean) 2 41 [.ref 70, .int x1, .int x2] I (f_X2_haveSameMarks x1 x2 I) := by
  refine Cti.of (ls := [some (.ref 70), some (.int x1), some (.int x2), none]) 1 hG (by decide) rfl (Nat.le_of_ble_eq_true rfl) ?_
  unfold f_X2_haveSameMarks
  refine J_iconst (pc := 0) (v := (0 : Int32)) dX2_haveSameMarks_0 (by decide) ?_
  refine J_istore_n (pc := 1) (ls' := [some (.ref 70), some (.int x1), some (.int x2), some (.int (0 : Int32))]) dX2_haveSameMarks_1 (Nat.le_of_ble_eq_true rfl) rfl rfl ?_
  refine tl_X2_haveSameMarks_2 hG hn (fun I5 => ?_) (fun I6 => ?_) fuel x1 x2 (0 : Int32) I
  · refine J_iconst (pc := 38) (v := (0 : Int32)) dX2_haveSameMarks_38 (by decide) ?_
    exact J_zret (pc := 39) rfl dX2_haveSameMarks_39
  · refine J_iconst (pc := 46) (v := (1 : Int32)) dX2_haveSameMarks_46 (by decide) ?_
    exact J_zret (pc := 47) rfl dX2_haveSameMarks_47
abbrev mu_X2_isKeptBefore (G : Gt) : Mt (Int32 × Mem) := mi G cX2_isKeptBefore 3 yX2_isKeptBefore.cls (some .boolean) 3 64
def b_X2_isKeptBefore_2 (K16 : Mem → Option (Int32 × Mem)) (K24 : Mem → Option (Int32 × Mem)) (R : Int32 → Int32 → Mem → Option (Int32 × Mem)) (x1 : Int32) (x2 : Int32) (I : Mem) : Option (Int32 × Mem) :=
  (if x1 ≤ x2 then K24 I else bI (f_X2_haveSameMarks x2 x1 I) fun r2 I1 => (if r2 = 0 then R x1 (x2 + (1 : Int32)) I1 else K16 I1))
def l_X2_isKeptBefore_2 (K16 : Mem → Option (Int32 × Mem)) (K24 : Mem → Option (Int32 × Mem)) : Nat → Int32 → Int32 → Mem → Option (Int32 × Mem) := fx (b_X2_isKeptBefore_2 K16 K24) (fun _ _ _ => none)
def f_X2_isKeptBefore (x1 : Int32) (I : Mem) : Option (Int32 × Mem) :=
  l_X2_isKeptBefore_2 (fun I3 => some ((1 : Int32), I3)) (fun I4 => some ((0 : Int32), I4)) fuel x1 (0 : Int32) I
set_option maxRecDepth 100000 in
theorem tb_X2_isKeptBefore_2 {G : Gt} (hG : Gok G) (hn : Gn G) {K16 : Mem → Option (Int32 × Mem)} (hK16 : ∀ (I : Mem), J G (mu_X2_isKeptBefore G) 16 [none, none, none] [] I (K16 I)) {K24 : Mem → Option (Int32 × Mem)} (hK24 : ∀ (I : Mem), J G (mu_X2_isKeptBefore G) 24 [none, none, none] [] I (K24 I)) {R : Int32 → Int32 → Mem → Option (Int32 × Mem)} (hR : ∀ (x1 : Int32) (x2 : Int32) (I : Mem), J G (mu_X2_isKeptBefore G) 2 [some (.ref 70), some (.int x1), some (.int x2)] [] I (R x1 x2 I)) (x1 : Int32) (x2 : Int32) (I : Mem) : J G (mu_X2_isKeptBefore G) 2 [some (.ref 70), some (.int x1), some (.int x2)] [] I (b_X2_isKeptBefore_2 K16 K24 R x1 x2 I) := by
  unfold b_X2_isKeptBefore_2
  refine J_iload_n (pc := 2) (x := x2) dX2_isKeptBefore_2 rfl ?_
  refine J_iload_n (pc := 3) (x := x1) dX2_isKeptBefore_3 rfl ?_
  refine J_icmp_ge (pc := 4) (tgt := 24) dX2_isKeptBefore_4 (by decide) ?_ ?_
  · refine J_weak (ls' := [none, none, none]) trivial ?_
    exact hK24 I
  · refine J_aload_n (pc := 7) (x := 70) dX2_isKeptBefore_7 rfl ?_
    refine J_iload_n (pc := 8) (x := x2) dX2_isKeptBefore_8 rfl ?_
    refine J_iload_n (pc := 9) (x := x1) dX2_isKeptBefore_9 rfl ?_
    refine J_callVi (pc := 10) (t := 2) (as := [.int x2, .int x1]) (st := []) (c_X2_haveSameMarks hG hn x2 x1 I) (ok_c hn 70 (by decide) rfl) (by decide) rfl (cw_RX2_66 rfl) wd_378 wd_377 rfl ⟨Nat.le_of_ble_eq_true rfl, Nat.le_of_ble_eq_true rfl, Nat.le_of_ble_eq_true rfl, Nat.le_of_ble_eq_true rfl⟩ (Nat.le_of_ble_eq_true rfl) rfl dX2_isKeptBefore_10 (fun r2 I1 => ?_)
    refine J_if_eq (pc := 13) (tgt := 18) dX2_isKeptBefore_13 (by decide) ?_ ?_
    · refine J_iinc (pc := 18) (d := (1 : Int32)) (ls' := [some (.ref 70), some (.int x1), some (.int (x2 + (1 : Int32)))]) dX2_isKeptBefore_18 (by decide) rfl (Nat.le_of_ble_eq_true rfl) rfl rfl ?_
      refine J_goto (pc := 21) (tgt := 2) dX2_isKeptBefore_21 (by decide) ?_
      exact hR x1 (x2 + (1 : Int32)) I1
    · refine J_weak (ls' := [none, none, none]) trivial ?_
      exact hK16 I1
theorem tl_X2_isKeptBefore_2 {G : Gt} (hG : Gok G) (hn : Gn G) {K16 : Mem → Option (Int32 × Mem)} (hK16 : ∀ (I : Mem), J G (mu_X2_isKeptBefore G) 16 [none, none, none] [] I (K16 I)) {K24 : Mem → Option (Int32 × Mem)} (hK24 : ∀ (I : Mem), J G (mu_X2_isKeptBefore G) 24 [none, none, none] [] I (K24 I)) (n : Nat) : ∀ (x1 : Int32) (x2 : Int32) (I : Mem), J G (mu_X2_isKeptBefore G) 2 [some (.ref 70), some (.int x1), some (.int x2)] [] I (l_X2_isKeptBefore_2 K16 K24 n x1 x2 I) := by
  induction n with
  | zero => intro x1 x2 I; exact J_none
  | succ n ih => intro x1 x2 I; exact tb_X2_isKeptBefore_2 hG hn hK16 hK24 ih x1 x2 I
set_option maxRecDepth 100000 in
theorem c_X2_isKeptBefore {G : Gt} (hG : Gok G) (hn : Gn G) (x1 : Int32) (I : Mem) : Cti G yX2_isKeptBefore cX2_isKeptBefore 3 (some .boolean) 3 64 [.ref 70, .int x1] I (f_X2_isKeptBefore x1 I) := by
  refine Cti.of (ls := [some (.ref 70), some (.int x1), none]) 1 hG (by decide) rfl (Nat.le_of_ble_eq_true rfl) ?_
  unfold f_X2_isKeptBefore
  refine J_iconst (pc := 0) (v := (0 : Int32)) dX2_isKeptBefore_0 (by decide) ?_
  refine J_istore_n (pc := 1) (ls' := [some (.ref 70), some (.int x1), some (.int (0 : Int32))]) dX2_isKeptBefore_1 (Nat.le_of_ble_eq_true rfl) rfl rfl ?_
  refine tl_X2_isKeptBefore_2 hG hn (fun I3 => ?_) (fun I4 => ?_) fuel x1 (0 : Int32) I
  · refine J_iconst (pc := 16) (v := (1 : Int32)) dX2_isKeptBefore_16 (by decide) ?_
    exact J_zret (pc := 17) rfl dX2_isKeptBefore_17
  · refine J_iconst (pc := 24) (v := (0 : Int32)) dX2_isKeptBefore_24 (by decide) ?_
    exact J_zret (pc := 25) rfl dX2_isKeptBefore_25
abbrev mu_X2_unlikeOnes (G : Gt) : Mt (Int32 × Mem) := mi G cX2_unlikeOnes 4 yX2_unlikeOnes.cls (some .int) 5 116
def b_X2_unlikeOnes_4 (K50 : Int32 → Mem → Option (Int32 × Mem)) (R : Int32 → Int32 → Int32 → Mem → Option (Int32 × Mem)) (x1 : Int32) (x2 : Int32) (x3 : Int32) (I : Mem) : Option (Int32 × Mem) :=
  bI (f_X2_codesOf x1 I) fun r2 I1 => (if r2 ≤ x3 then K50 x2 I1 else (if (128 : Int32) ≤ x2 then K50 x2 I1 else bI (f_X2_isTried x1 x3 I1) fun r4 I3 => (if r4 = 0 then R x1 x2 (x3 + (1 : Int32)) I3 else bV (f_X2_keepMarks x2 I3) fun I5 => bI (f_X2_isKeptBefore x2 I5) fun r7 I6 => (if r7 = 0 then R x1 (x2 + (1 : Int32)) (x3 + (1 : Int32)) I6 else R x1 x2 (x3 + (1 : Int32)) I6))))
def l_X2_unlikeOnes_4 (K50 : Int32 → Mem → Option (Int32 × Mem)) : Nat → Int32 → Int32 → Int32 → Mem → Option (Int32 × Mem) := fx (b_X2_unlikeOnes_4 K50) (fun _ _ _ _ => none)
def f_X2_unlikeOnes (x1 : Int32) (I : Mem) : Option (Int32 × Mem) :=
  l_X2_unlikeOnes_4 (fun (z8 : Int32) I9 => some (z8, I9)) fuel x1 (0 : Int32) (0 : Int32) I
set_option maxRecDepth 100000 in
theorem tb_X2_unlikeOnes_4 {G : Gt} (hG : Gok G) (hn : Gn G) {K50 : Int32 → Mem → Option (Int32 × Mem)} (hK50 : ∀ (x2 : Int32) (I : Mem), J G (mu_X2_unlikeOnes G) 50 [none, none, some (.int x2), none] [] I (K50 x2 I)) {R : Int32 → Int32 → Int32 → Mem → Option (Int32 × Mem)} (hR : ∀ (x1 : Int32) (x2 : Int32) (x3 : Int32) (I : Mem), J G (mu_X2_unlikeOnes G) 4 [some (.ref 70), some (.int x1), some (.int x2), some (.int x3)] [] I (R x1 x2 x3 I)) (x1 : Int32) (x2 : Int32) (x3 : Int32) (I : Mem) : J G (mu_X2_unlikeOnes G) 4 [some (.ref 70), some (.int x1), some (.int x2), some (.int x3)] [] I (b_X2_unlikeOnes_4 K50 R x1 x2 x3 I) := by
  unfold b_X2_unlikeOnes_4
  refine J_iload_n (pc := 4) (x := x3) dX2_unlikeOnes_4 rfl ?_
  refine J_iload_n (pc := 5) (x := x1) dX2_unlikeOnes_5 rfl ?_
  refine J_callSi (pc := 6) (as := [.int x1]) (st := [.int x3]) (c_X2_codesOf hG hn x1 I) (cw_RX2_34 rfl) wd_341 rfl ⟨Nat.le_of_ble_eq_true rfl, Nat.le_of_ble_eq_true rfl, Nat.le_of_ble_eq_true rfl, Nat.le_of_ble_eq_true rfl⟩ (Nat.le_of_ble_eq_true rfl) rfl dX2_unlikeOnes_6 (fun r2 I1 => ?_)
  refine J_icmp_ge (pc := 9) (tgt := 50) dX2_unlikeOnes_9 (by decide) ?_ ?_
  · refine J_weak (ls' := [none, none, some (.int x2), none]) ⟨rfl, trivial⟩ ?_
    exact hK50 x2 I1
  · refine J_iload_n (pc := 12) (x := x2) dX2_unlikeOnes_12 rfl ?_
    refine J_sipush (pc := 13) (v := (128 : Int32)) dX2_unlikeOnes_13 (by decide) ?_
    refine J_icmp_ge (pc := 16) (tgt := 50) dX2_unlikeOnes_16 (by decide) ?_ ?_
    · refine J_weak (ls' := [none, none, some (.int x2), none]) ⟨rfl, trivial⟩ ?_
      exact hK50 x2 I1
    · refine J_aload_n (pc := 19) (x := 70) dX2_unlikeOnes_19 rfl ?_
      refine J_iload_n (pc := 20) (x := x1) dX2_unlikeOnes_20 rfl ?_
      refine J_iload_n (pc := 21) (x := x3) dX2_unlikeOnes_21 rfl ?_
      refine J_callVi (pc := 22) (t := 2) (as := [.int x1, .int x3]) (st := []) (c_X2_isTried hG hn x1 x3 I1) (ok_c hn 70 (by decide) rfl) (by decide) rfl (cw_RX2_37 rfl) wd_350 wd_349 rfl ⟨Nat.le_of_ble_eq_true rfl, Nat.le_of_ble_eq_true rfl, Nat.le_of_ble_eq_true rfl, Nat.le_of_ble_eq_true rfl⟩ (Nat.le_of_ble_eq_true rfl) rfl dX2_unlikeOnes_22 (fun r4 I3 => ?_)
      refine J_if_eq (pc := 25) (tgt := 44) dX2_unlikeOnes_25 (by decide) ?_ ?_
      · refine J_iinc (pc := 44) (d := (1 : Int32)) (ls' := [some (.ref 70), some (.int x1), some (.int x2), some (.int (x3 + (1 : Int32)))]) dX2_unlikeOnes_44 (by decide) rfl (Nat.le_of_ble_eq_true rfl) rfl rfl ?_
        refine J_goto (pc := 47) (tgt := 4) dX2_unlikeOnes_47 (by decide) ?_
        exact hR x1 x2 (x3 + (1 : Int32)) I3
      · refine J_aload_n (pc := 28) (x := 70) dX2_unlikeOnes_28 rfl ?_
        refine J_iload_n (pc := 29) (x := x2) dX2_unlikeOnes_29 rfl ?_
        refine J_callVv (pc := 30) (t := 2) (as := [.int x2]) (st := []) (c_X2_keepMarks hG hn x2 I3) (ok_c hn 70 (by decide) rfl) (by decide) rfl (cw_RX2_59 rfl) wd_374 wd_373 rfl ⟨Nat.le_of_ble_eq_true rfl, Nat.le_of_ble_eq_true rfl, Nat.le_of_ble_eq_true rfl, Nat.le_of_ble_eq_true rfl⟩ (Nat.le_of_ble_eq_true rfl) rfl dX2_unlikeOnes_30 (fun I5 => ?_)
        refine J_aload_n (pc := 33) (x := 70) dX2_unlikeOnes_33 rfl ?_
        refine J_iload_n (pc := 34) (x := x2) dX2_unlikeOnes_34 rfl ?_
        refine J_callVi (pc := 35) (t := 2) (as := [.int x2]) (st := []) (c_X2_isKeptBefore hG hn x2 I5) (ok_c hn 70 (by decide) rfl) (by decide) rfl (cw_RX2_63 rfl) wd_382 wd_381 rfl ⟨Nat.le_of_ble_eq_true rfl, Nat.le_of_ble_eq_true rfl, Nat.le_of_ble_eq_true rfl, Nat.le_of_ble_eq_true rfl⟩ (Nat.le_of_ble_eq_true rfl) rfl dX2_unlikeOnes_35 (fun r7 I6 => ?_)
        refine J_if_ne (pc := 38) (tgt := 44) dX2_unlikeOnes_38 (by decide) ?_ ?_
        · refine J_iinc (pc := 41) (d := (1 : Int32)) (ls' := [some (.ref 70), some (.int x1), some (.int (x2 + (1 : Int32))), some (.int x3)]) dX2_unlikeOnes_41 (by decide) rfl (Nat.le_of_ble_eq_true rfl) rfl rfl ?_
          refine J_iinc (pc := 44) (d := (1 : Int32)) (ls' := [some (.ref 70), some (.int x1), some (.int (x2 + (1 : Int32))), some (.int (x3 + (1 : Int32)))]) dX2_unlikeOnes_44 (by decide) rfl (Nat.le_of_ble_eq_true rfl) rfl rfl ?_
          refine J_goto (pc := 47) (tgt := 4) dX2_unlikeOnes_47 (by decide) ?_
          exact hR x1 (x2 + (1 : Int32)) (x3 + (1 : Int32)) I6
        · refine J_iinc (pc := 44) (d := (1 : Int32)) (ls' := [some (.ref 70), some (.int x1), some (.int x2), some (.int (x3 + (1 : Int32)))]) dX2_unlikeOnes_44 (by decide) rfl (Nat.le_of_ble_eq_true rfl) rfl rfl ?_
          refine J_goto (pc := 47) (tgt := 4) dX2_unlikeOnes_47 (by decide) ?_
          exact hR x1 x2 (x3 + (1 : Int32)) I6
theorem tl_X2_unlikeOnes_4 {G : Gt} (hG : Gok G) (hn : Gn G) {K50 : Int32 → Mem → Option (Int32 × Mem)} (hK50 : ∀ (x2 : Int32) (I : Mem), J G (mu_X2_unlikeOnes G) 50 [none, none, some (.int x2), none] [] I (K50 x2 I)) (n : Nat) : ∀ (x1 : Int32) (x2 : Int32) (x3 : Int32) (I : Mem), J G (mu_X2_unlikeOnes G) 4 [some (.ref 70), some (.int x1), some (.int x2), some (.int x3)] [] I (l_X2_unlikeOnes_4 K50 n x1 x2 x3 I) := by
  induction n with
  | zero => intro x1 x2 x3 I; exact J_none
  | succ n ih => intro x1 x2 x3 I; exact tb_X2_unlikeOnes_4 hG hn hK50 ih x1 x2 x3 I
set_option maxRecDepth 100000 in
theorem c_X2_unlikeOnes {G : Gt} (hG : Gok G) (hn : Gn G) (x1 : Int32) (I : Mem) : Cti G yX2_unlikeOnes cX2_unlikeOnes 4 (some .int) 5 116 [.ref 70, .int x1] I (f_X2_unlikeOnes x1 I) := by
  refine Cti.of (ls := [some (.ref 70), some (.int x1), none, none]) 2 hG (by decide) rfl (Nat.le_of_ble_eq_true rfl) ?_
  unfold f_X2_unlikeOnes
  refine J_iconst (pc := 0) (v := (0 : Int32)) dX2_unlikeOnes_0 (by decide) ?_
  refine J_istore_n (pc := 1) (ls' := [some (.ref 70), some (.int x1), some (.int (0 : Int32)), none]) dX2_unlikeOnes_1 (Nat.le_of_ble_eq_true rfl) rfl rfl ?_
  refine J_iconst (pc := 2) (v := (0 : Int32)) dX2_unlikeOnes_2 (by decide) ?_
  refine J_istore_n (pc := 3) (ls' := [some (.ref 70), some (.int x1), some (.int (0 : Int32)), some (.int (0 : Int32))]) dX2_unlikeOnes_3 (Nat.le_of_ble_eq_true rfl) rfl rfl ?_
  refine tl_X2_unlikeOnes_4 hG hn (fun z8 I9 => ?_) fuel x1 (0 : Int32) (0 : Int32) I
  · refine J_iload_n (pc := 50) (x := z8) dX2_unlikeOnes_50 rfl ?_
    exact J_iret (pc := 51) dX2_unlikeOnes_51
abbrev mu_X8_unlike (G : Gt) : Mt (Int32 × Mem) := mi G cX8_unlike 2 yX8_unlike.cls (some .int) 6 139
def f_X8_unlike (x1 : Int32) (I : Mem) : Option (Int32 × Mem) :=
  bI (f_X8_isFoldCount x1 I) fun r2 I1 => (if r2 = 0 then some ((-1 : Int32), I1) else bI (f_X2_unlikeOnes x1 I1) fun r4 I3 => some (r4, I3))
set_option maxRecDepth 100000 in
theorem c_X8_unlike {G : Gt} (hG : Gok G) (hn : Gn G) (x1 : Int32) (I : Mem) : Cti G yX8_unlike cX8_unlike 2 (some .int) 6 139 [.ref 0, .int x1] I (f_X8_unlike x1 I) := by
  refine Cti.of (ls := [some (.ref 0), some (.int x1)]) 0 hG (by decide) rfl (Nat.le_of_ble_eq_true rfl) ?_
  unfold f_X8_unlike
  refine J_iload_n (pc := 0) (x := x1) dX8_unlike_0 rfl ?_
  refine J_callSi (pc := 1) (as := [.int x1]) (st := []) (c_X8_isFoldCount hG hn x1 I) (cw_RX8_189 rfl) wd_337 rfl ⟨Nat.le_of_ble_eq_true rfl, Nat.le_of_ble_eq_true rfl, Nat.le_of_ble_eq_true rfl, Nat.le_of_ble_eq_true rfl⟩ (Nat.le_of_ble_eq_true rfl) rfl dX8_unlike_1 (fun r2 I1 => ?_)
  refine J_if_ne (pc := 4) (tgt := 9) dX8_unlike_4 (by decide) ?_ ?_
  · refine J_iconst (pc := 7) (v := (-1 : Int32)) dX8_unlike_7 (by decide) ?_
    exact J_iret (pc := 8) dX8_unlike_8
  · refine J_aload_n (pc := 9) (x := 0) dX8_unlike_9 rfl ?_
    refine J_get (pc := 10) (t := 8) (k := 5) (.ref 70) (ok_c hn 0 (by decide) rfl) (by decide) rfl ingX8 (by decide) wd_340 rfl dX8_unlike_10 ?_
    refine J_iload_n (pc := 13) (x := x1) dX8_unlike_13 rfl ?_
    refine J_callVi (pc := 14) (t := 2) (as := [.int x1]) (st := []) (c_X2_unlikeOnes hG hn x1 I1) (ok_c hn 70 (by decide) rfl) (by decide) rfl (cw_RX8_200 rfl) wd_386 wd_385 rfl ⟨Nat.le_of_ble_eq_true rfl, Nat.le_of_ble_eq_true rfl, Nat.le_of_ble_eq_true rfl, Nat.le_of_ble_eq_true rfl⟩ (Nat.le_of_ble_eq_true rfl) rfl dX8_unlike_14 (fun r4 I3 => ?_)
    exact J_iret (pc := 17) dX8_unlike_17
abbrev mu_X8_plan (G : Gt) : Mt (Int32 × Mem) := mi G cX8_plan 2 yX8_plan.cls (some .int) 0 0
def f_X8_plan (x1 : Int32) (I : Mem) : Option (Int32 × Mem) :=
  (if x1 = (0 : Int32) then some ((I 84 0), I) else (if x1 = (1 : Int32) then some (((I 84 1) - (I 4 0)), I) else (if x1 = (2 : Int32) then some ((I 76 2), I) else (if x1 = (3 : Int32) then some ((I 84 1), I) else some ((-1 : Int32), I)))))
set_option maxRecDepth 100000 in
theorem c_X8_plan {G : Gt} (hG : Gok G) (hn : Gn G) (x1 : Int32) (I : Mem) : Cti G yX8_plan cX8_plan 2 (some .int) 0 0 [.ref 0, .int x1] I (f_X8_plan x1 I) := by
  refine Cti.of (ls := [some (.ref 0), some (.int x1)]) 0 hG (by decide) rfl (Nat.le_of_ble_eq_true rfl) ?_
  unfold f_X8_plan
  refine J_iload_n (pc := 0) (x := x1) dX8_plan_0 rfl ?_
  refine J_ite (fun hq1 => ?_) (fun hq1 => ?_)
  · refine J_tblIn (pc := 1) (off := 31) (tgt := 32) dX8_plan_1 (by rw [hq1]; decide) (by rw [hq1]; decide) (by rw [hq1]; decide) (by decide) ?_
    refine J_aload_n (pc := 32) (x := 0) dX8_plan_32 rfl ?_
    refine J_get (pc := 33) (t := 8) (k := 7) (.ref 84) (ok_c hn 0 (by decide) rfl) (by decide) rfl ingX8 (by decide) wd_191 rfl dX8_plan_33 ?_
    refine J_get (pc := 36) (t := 0) (k := 0) (.int (I 84 0)) (ok_c hn 84 (by decide) rfl) (by decide) rfl ingX0 (by decide) wd_262 rfl dX8_plan_36 ?_
    exact J_iret (pc := 39) dX8_plan_39
  refine J_ite (fun hq2 => ?_) (fun hq2 => ?_)
  · refine J_tblIn (pc := 1) (off := 39) (tgt := 40) dX8_plan_1 (by rw [hq2]; decide) (by rw [hq2]; decide) (by rw [hq2]; decide) (by decide) ?_
    refine J_aload_n (pc := 40) (x := 0) dX8_plan_40 rfl ?_
    refine J_get (pc := 41) (t := 8) (k := 7) (.ref 84) (ok_c hn 0 (by decide) rfl) (by decide) rfl ingX8 (by decide) wd_191 rfl dX8_plan_41 ?_
    refine J_get (pc := 44) (t := 0) (k := 1) (.int (I 84 1)) (ok_c hn 84 (by decide) rfl) (by decide) rfl ingX0 (by decide) wd_389 rfl dX8_plan_44 ?_
    refine J_aload_n (pc := 47) (x := 0) dX8_plan_47 rfl ?_
    refine J_get (pc := 48) (t := 8) (k := 1) (.ref 3) (ok_c hn 0 (by decide) rfl) (by decide) rfl ingX8 (by decide) wd_72 rfl dX8_plan_48 ?_
    refine J_get (pc := 51) (t := 7) (k := 1) (.ref 4) (ok_c hn 3 (by decide) rfl) (by decide) rfl ingX7 (by decide) wd_238 rfl dX8_plan_51 ?_
    refine J_iconst (pc := 54) (v := (0 : Int32)) dX8_plan_54 (by decide) ?_
    refine J_ild (pc := 55) (t := 11) (k := 0) (ok_c hn 4 (by decide) rfl) iT_11 (inb_in (by decide)) (by decide) dX8_plan_55 ?_
    refine J_isub (pc := 56) dX8_plan_56 ?_
    exact J_iret (pc := 57) dX8_plan_57
  refine J_ite (fun hq3 => ?_) (fun hq3 => ?_)
  · refine J_tblIn (pc := 1) (off := 57) (tgt := 58) dX8_plan_1 (by rw [hq3]; decide) (by rw [hq3]; decide) (by rw [hq3]; decide) (by decide) ?_
    refine J_aload_n (pc := 58) (x := 0) dX8_plan_58 rfl ?_
    refine J_get (pc := 59) (t := 8) (k := 6) (.ref 76) (ok_c hn 0 (by decide) rfl) (by decide) rfl ingX8 (by decide) wd_151 rfl dX8_plan_59 ?_
    refine J_get (pc := 62) (t := 4) (k := 2) (.int (I 76 2)) (ok_c hn 76 (by decide) rfl) (by decide) rfl ingX4 (by decide) wd_390 rfl dX8_plan_62 ?_
    exact J_iret (pc := 65) dX8_plan_65
  refine J_ite (fun hq4 => ?_) (fun hq4 => ?_)
  · refine J_tblIn (pc := 1) (off := 65) (tgt := 66) dX8_plan_1 (by rw [hq4]; decide) (by rw [hq4]; decide) (by rw [hq4]; decide) (by decide) ?_
    refine J_aload_n (pc := 66) (x := 0) dX8_plan_66 rfl ?_
    refine J_get (pc := 67) (t := 8) (k := 7) (.ref 84) (ok_c hn 0 (by decide) rfl) (by decide) rfl ingX8 (by decide) wd_191 rfl dX8_plan_67 ?_
    refine J_get (pc := 70) (t := 0) (k := 1) (.int (I 84 1)) (ok_c hn 84 (by decide) rfl) (by decide) rfl ingX0 (by decide) wd_389 rfl dX8_plan_70 ?_
    exact J_iret (pc := 73) dX8_plan_73
  refine J_tblOut (pc := 1) (tgt := 74) dX8_plan_1 (by have e0 := ne_int hq1 (show ((0 : Int32)).toInt = 0 by decide); have e1 := ne_int hq2 (show ((1 : Int32)).toInt = 1 by decide); have e2 := ne_int hq3 (show ((2 : Int32)).toInt = 2 by decide); have e3 := ne_int hq4 (show ((3 : Int32)).toInt = 3 by decide); omega) (by decide) ?_
  refine J_iconst (pc := 74) (v := (-1 : Int32)) dX8_plan_74 (by decide) ?_
  exact J_iret (pc := 75) dX8_plan_75
abbrev mu_X8_blanks (G : Gt) : Mt (Int32 × Mem) := mi G cX8_blanks 2 yX8_blanks.cls (some .int) 1 22
def f_X8_blanks (x1 : Int32) (I : Mem) : Option (Int32 × Mem) :=
  (if x1 < (exv 0 0) then some ((-1 : Int32), I) else (if x1 ≤ (exv 1 0) then bI (f_X4_unitsFor x1 I) fun r2 I1 => some (((r2 * (4 : Int32)) - x1), I1) else some ((-1 : Int32), I)))
set_option maxRecDepth 100000 in
theorem c_X8_blanks {G : Gt} (hG : Gok G) (hn : Gn G) (x1 : Int32) (I : Mem) : Cti G yX8_blanks cX8_blanks 2 (some .int) 1 22 [.ref 0, .int x1] I (f_X8_blanks x1 I) := by
  refine Cti.of (ls := [some (.ref 0), some (.int x1)]) 0 hG (by decide) rfl (Nat.le_of_ble_eq_true rfl) ?_
  unfold f_X8_blanks
  refine J_iload_n (pc := 0) (x := x1) dX8_blanks_0 rfl ?_
  refine J_gets (pc := 1) (nm := "NUMBER_LEAST") 0 (by decide) wd_236 dX8_blanks_1 ?_
  refine J_iconst (pc := 4) (v := (0 : Int32)) dX8_blanks_4 (by decide) ?_
  refine J_eld (pc := 5) (j := 0) (k := 0) (by decide) (inb_in (by decide)) (by decide) dX8_blanks_5 ?_
  refine J_icmp_lt (pc := 6) (tgt := 18) dX8_blanks_6 (by decide) ?_ ?_
  · refine J_iconst (pc := 18) (v := (-1 : Int32)) dX8_blanks_18 (by decide) ?_
    exact J_iret (pc := 19) dX8_blanks_19
  · refine J_iload_n (pc := 9) (x := x1) dX8_blanks_9 rfl ?_
    refine J_gets (pc := 10) (nm := "NUMBER_MOST") 1 (by decide) wd_237 dX8_blanks_10 ?_
    refine J_iconst (pc := 13) (v := (0 : Int32)) dX8_blanks_13 (by decide) ?_
    refine J_eld (pc := 14) (j := 1) (k := 0) (by decide) (inb_in (by decide)) (by decide) dX8_blanks_14 ?_
    refine J_icmp_le (pc := 15) (tgt := 20) dX8_blanks_15 (by decide) ?_ ?_
    · refine J_aload_n (pc := 20) (x := 0) dX8_blanks_20 rfl ?_
      refine J_get (pc := 21) (t := 8) (k := 6) (.ref 76) (ok_c hn 0 (by decide) rfl) (by decide) rfl ingX8 (by decide) wd_151 rfl dX8_blanks_21 ?_
      refine J_iload_n (pc := 24) (x := x1) dX8_blanks_24 rfl ?_
      refine J_callVi (pc := 25) (t := 4) (as := [.int x1]) (st := []) (c_X4_unitsFor hG hn x1 I) (ok_c hn 76 (by decide) rfl) (by decide) rfl (cw_RX8_212 rfl) wd_174 wd_173 rfl ⟨Nat.le_of_ble_eq_true rfl, Nat.le_of_ble_eq_true rfl, Nat.le_of_ble_eq_true rfl, Nat.le_of_ble_eq_true rfl⟩ (Nat.le_of_ble_eq_true rfl) rfl dX8_blanks_25 (fun r2 I1 => ?_)
      refine J_iconst (pc := 28) (v := (4 : Int32)) dX8_blanks_28 (by decide) ?_
      refine J_imul (pc := 29) dX8_blanks_29 ?_
      refine J_iload_n (pc := 30) (x := x1) dX8_blanks_30 rfl ?_
      refine J_isub (pc := 31) dX8_blanks_31 ?_
      exact J_iret (pc := 32) dX8_blanks_32
    · refine J_iconst (pc := 18) (v := (-1 : Int32)) dX8_blanks_18 (by decide) ?_
      exact J_iret (pc := 19) dX8_blanks_19
abbrev mu_X0_out_84_3 (G : Gt) : Mt (Int32 × Mem) := mi G cX0_out 7 yX0_out.cls (some .int) 1 21
def f_X0_out_84_3 (x2 : Int32) (x3 : Int32) (I : Mem) : Option (Int32 × Mem) :=
  ck (inb x2 100) <| bI (f_X7_pagesOf (I 85 (tn x2)) I) fun r3 I2 => (if (I2 4 2) = (1 : Int32) then ck (inb x2 100) <| some (((if (((r3 / (2 : Int32)) - (1 : Int32)) - ((x3 - (1 : Int32)) / (2 : Int32))) < ((x3 - (1 : Int32)) / (2 : Int32)) then (((r3 / (2 : Int32)) - (1 : Int32)) - ((x3 - (1 : Int32)) / (2 : Int32))) else ((x3 - (1 : Int32)) / (2 : Int32))) + ((I2 86 (tn x2)) / (4 : Int32))), I2) else some ((if (((r3 / (2 : Int32)) - (1 : Int32)) - ((x3 - (1 : Int32)) / (2 : Int32))) < ((x3 - (1 : Int32)) / (2 : Int32)) then (((r3 / (2 : Int32)) - (1 : Int32)) - ((x3 - (1 : Int32)) / (2 : Int32))) else ((x3 - (1 : Int32)) / (2 : Int32))), I2))
set_option maxRecDepth 100000 in
theorem c_X0_out_84_3 {G : Gt} (hG : Gok G) (hn : Gn G) (x2 : Int32) (x3 : Int32) (I : Mem) : Cti G yX0_out cX0_out 7 (some .int) 1 21 [.ref 84, .ref 3, .int x2, .int x3] I (f_X0_out_84_3 x2 x3 I) := by
  refine Cti.of (ls := [some (.ref 84), some (.ref 3), some (.int x2), some (.int x3), none, none, none]) 3 hG (by decide) rfl (Nat.le_of_ble_eq_true rfl) ?_
  unfold f_X0_out_84_3
  refine J_aload_n (pc := 0) (x := 3) dX0_out_0 rfl ?_
  refine J_aload_n (pc := 1) (x := 84) dX0_out_1 rfl ?_
  refine J_get (pc := 2) (t := 0) (k := 2) (.ref 85) (ok_c hn 84 (by decide) rfl) (by decide) rfl ingX0 (by decide) wd_200 rfl dX0_out_2 ?_
  refine J_iload_n (pc := 5) (x := x2) dX0_out_5 rfl ?_
  refine J_ck (fun hc1 => ?_)
  refine J_ild (pc := 6) (t := 24) (k := (tn x2)) (ok_c hn 85 (by decide) rfl) iT_24 (inb_in hc1) rfl dX0_out_6 ?_
  refine J_callVi (pc := 7) (t := 7) (as := [.int (I 85 (tn x2))]) (st := []) (c_X7_pagesOf hG hn (I 85 (tn x2)) I) (ok_c hn 3 (by decide) rfl) (by decide) rfl (cw_RX0_41 rfl) wd_197 wd_196 rfl ⟨Nat.le_of_ble_eq_true rfl, Nat.le_of_ble_eq_true rfl, Nat.le_of_ble_eq_true rfl, Nat.le_of_ble_eq_true rfl⟩ (Nat.le_of_ble_eq_true rfl) rfl dX0_out_7 (fun r3 I2 => ?_)
  refine J_iconst (pc := 10) (v := (2 : Int32)) dX0_out_10 (by decide) ?_
  refine J_idiv (pc := 11) dX0_out_11 (by decide) ?_
  refine J_istore (pc := 12) (ls' := [some (.ref 84), some (.ref 3), some (.int x2), some (.int x3), some (.int (r3 / (2 : Int32))), none, none]) dX0_out_12 (Nat.le_of_ble_eq_true rfl) rfl rfl ?_
  refine J_iload_n (pc := 14) (x := x3) dX0_out_14 rfl ?_
  refine J_iconst (pc := 15) (v := (1 : Int32)) dX0_out_15 (by decide) ?_
  refine J_isub (pc := 16) dX0_out_16 ?_
  refine J_iconst (pc := 17) (v := (2 : Int32)) dX0_out_17 (by decide) ?_
  refine J_idiv (pc := 18) dX0_out_18 (by decide) ?_
  refine J_istore (pc := 19) (ls' := [some (.ref 84), some (.ref 3), some (.int x2), some (.int x3), some (.int (r3 / (2 : Int32))), some (.int ((x3 - (1 : Int32)) / (2 : Int32))), none]) dX0_out_19 (Nat.le_of_ble_eq_true rfl) rfl rfl ?_
  refine J_iload (pc := 21) (x := ((x3 - (1 : Int32)) / (2 : Int32))) dX0_out_21 rfl ?_
  refine J_iload (pc := 23) (x := (r3 / (2 : Int32))) dX0_out_23 rfl ?_
  refine J_iconst (pc := 25) (v := (1 : Int32)) dX0_out_25 (by decide) ?_
  refine J_isub (pc := 26) dX0_out_26 ?_
  refine J_iload (pc := 27) (x := ((x3 - (1 : Int32)) / (2 : Int32))) dX0_out_27 rfl ?_
  refine J_isub (pc := 29) dX0_out_29 ?_
  refine J_min (pc := 30) wd_395 wd_93 wd_94 wd_95 ⟨Nat.le_of_ble_eq_true rfl, Nat.le_of_ble_eq_true rfl⟩ ⟨Nat.le_of_ble_eq_true rfl, Nat.le_of_ble_eq_true rfl⟩ dX0_out_30 ?_
  refine J_istore (pc := 33) (ls' := [some (.ref 84), some (.ref 3), some (.int x2), some (.int x3), some (.int (r3 / (2 : Int32))), some (.int ((x3 - (1 : Int32)) / (2 : Int32))), some (.int (if (((r3 / (2 : Int32)) - (1 : Int32)) - ((x3 - (1 : Int32)) / (2 : Int32))) < ((x3 - (1 : Int32)) / (2 : Int32)) then (((r3 / (2 : Int32)) - (1 : Int32)) - ((x3 - (1 : Int32)) / (2 : Int32))) else ((x3 - (1 : Int32)) / (2 : Int32))))]) dX0_out_33 (Nat.le_of_ble_eq_true rfl) rfl rfl ?_
  refine J_aload_n (pc := 35) (x := 3) dX0_out_35 rfl ?_
  refine J_get (pc := 36) (t := 7) (k := 1) (.ref 4) (ok_c hn 3 (by decide) rfl) (by decide) rfl ingX7 (by decide) wd_207 rfl dX0_out_36 ?_
  refine J_iconst (pc := 39) (v := (2 : Int32)) dX0_out_39 (by decide) ?_
  refine J_ild (pc := 40) (t := 11) (k := 2) (ok_c hn 4 (by decide) rfl) iT_11 (inb_in (by decide)) (by decide) dX0_out_40 ?_
  refine J_iconst (pc := 41) (v := (1 : Int32)) dX0_out_41 (by decide) ?_
  refine J_icmp_ne (pc := 42) (tgt := 59) dX0_out_42 (by decide) ?_ ?_
  · refine J_iload (pc := 45) (x := (if (((r3 / (2 : Int32)) - (1 : Int32)) - ((x3 - (1 : Int32)) / (2 : Int32))) < ((x3 - (1 : Int32)) / (2 : Int32)) then (((r3 / (2 : Int32)) - (1 : Int32)) - ((x3 - (1 : Int32)) / (2 : Int32))) else ((x3 - (1 : Int32)) / (2 : Int32)))) dX0_out_45 rfl ?_
    refine J_aload_n (pc := 47) (x := 84) dX0_out_47 rfl ?_
    refine J_get (pc := 48) (t := 0) (k := 3) (.ref 86) (ok_c hn 84 (by decide) rfl) (by decide) rfl ingX0 (by decide) wd_201 rfl dX0_out_48 ?_
    refine J_iload_n (pc := 51) (x := x2) dX0_out_51 rfl ?_
    refine J_ck (fun hc4 => ?_)
    refine J_ild (pc := 52) (t := 25) (k := (tn x2)) (ok_c hn 86 (by decide) rfl) iT_25 (inb_in hc4) rfl dX0_out_52 ?_
    refine J_iconst (pc := 53) (v := (4 : Int32)) dX0_out_53 (by decide) ?_
    refine J_idiv (pc := 54) dX0_out_54 (by decide) ?_
    refine J_iadd (pc := 55) dX0_out_55 ?_
    refine J_goto (pc := 56) (tgt := 61) dX0_out_56 (by decide) ?_
    exact J_iret (pc := 61) dX0_out_61
  · refine J_iload (pc := 59) (x := (if (((r3 / (2 : Int32)) - (1 : Int32)) - ((x3 - (1 : Int32)) / (2 : Int32))) < ((x3 - (1 : Int32)) / (2 : Int32)) then (((r3 / (2 : Int32)) - (1 : Int32)) - ((x3 - (1 : Int32)) / (2 : Int32))) else ((x3 - (1 : Int32)) / (2 : Int32)))) dX0_out_59 rfl ?_
    exact J_iret (pc := 61) dX0_out_61
abbrev mu_X0_mostOut_84_3 (G : Gt) : Mt (Int32 × Mem) := mi G cX0_mostOut 4 yX0_mostOut.cls (some .int) 1 21
def f_X0_mostOut_84_3 (x2 : Int32) (I : Mem) : Option (Int32 × Mem) :=
  (if (I 4 2) = (1 : Int32) then some ((((I 84 1) / (4 : Int32)) - (1 : Int32)), I) else ck (inb x2 100) <| bI (f_X7_pagesOf (I 85 (tn x2)) I) fun r3 I2 => some (((r3 / (4 : Int32)) - (1 : Int32)), I2))
set_option maxRecDepth 100000 in
theorem c_X0_mostOut_84_3 {G : Gt} (hG : Gok G) (hn : Gn G) (x2 : Int32) (I : Mem) : Cti G yX0_mostOut cX0_mostOut 4 (some .int) 1 21 [.ref 84, .ref 3, .int x2] I (f_X0_mostOut_84_3 x2 I) := by
  refine Cti.of (ls := [some (.ref 84), some (.ref 3), some (.int x2), none]) 1 hG (by decide) rfl (Nat.le_of_ble_eq_true rfl) ?_
  unfold f_X0_mostOut_84_3
  refine J_aload_n (pc := 0) (x := 3) dX0_mostOut_0 rfl ?_
  refine J_get (pc := 1) (t := 7) (k := 1) (.ref 4) (ok_c hn 3 (by decide) rfl) (by decide) rfl ingX7 (by decide) wd_207 rfl dX0_mostOut_1 ?_
  refine J_iconst (pc := 4) (v := (2 : Int32)) dX0_mostOut_4 (by decide) ?_
  refine J_ild (pc := 5) (t := 11) (k := 2) (ok_c hn 4 (by decide) rfl) iT_11 (inb_in (by decide)) (by decide) dX0_mostOut_5 ?_
  refine J_iconst (pc := 6) (v := (1 : Int32)) dX0_mostOut_6 (by decide) ?_
  refine J_icmp_ne (pc := 7) (tgt := 17) dX0_mostOut_7 (by decide) ?_ ?_
  · refine J_aload_n (pc := 10) (x := 84) dX0_mostOut_10 rfl ?_
    refine J_get (pc := 11) (t := 0) (k := 1) (.int (I 84 1)) (ok_c hn 84 (by decide) rfl) (by decide) rfl ingX0 (by decide) wd_193 rfl dX0_mostOut_11 ?_
    refine J_goto (pc := 14) (tgt := 27) dX0_mostOut_14 (by decide) ?_
    refine J_istore_n (pc := 27) (ls' := [some (.ref 84), some (.ref 3), some (.int x2), some (.int (I 84 1))]) dX0_mostOut_27 (Nat.le_of_ble_eq_true rfl) rfl rfl ?_
    refine J_iload_n (pc := 28) (x := (I 84 1)) dX0_mostOut_28 rfl ?_
    refine J_iconst (pc := 29) (v := (4 : Int32)) dX0_mostOut_29 (by decide) ?_
    refine J_idiv (pc := 30) dX0_mostOut_30 (by decide) ?_
    refine J_iconst (pc := 31) (v := (1 : Int32)) dX0_mostOut_31 (by decide) ?_
    refine J_isub (pc := 32) dX0_mostOut_32 ?_
    exact J_iret (pc := 33) dX0_mostOut_33
  · refine J_aload_n (pc := 17) (x := 3) dX0_mostOut_17 rfl ?_
    refine J_aload_n (pc := 18) (x := 84) dX0_mostOut_18 rfl ?_
    refine J_get (pc := 19) (t := 0) (k := 2) (.ref 85) (ok_c hn 84 (by decide) rfl) (by decide) rfl ingX0 (by decide) wd_200 rfl dX0_mostOut_19 ?_
    refine J_iload_n (pc := 22) (x := x2) dX0_mostOut_22 rfl ?_
    refine J_ck (fun hc1 => ?_)
    refine J_ild (pc := 23) (t := 24) (k := (tn x2)) (ok_c hn 85 (by decide) rfl) iT_24 (inb_in hc1) rfl dX0_mostOut_23 ?_
    refine J_callVi (pc := 24) (t := 7) (as := [.int (I 85 (tn x2))]) (st := []) (c_X7_pagesOf hG hn (I 85 (tn x2)) I) (ok_c hn 3 (by decide) rfl) (by decide) rfl (cw_RX0_41 rfl) wd_197 wd_196 rfl ⟨Nat.le_of_ble_eq_true rfl, Nat.le_of_ble_eq_true rfl, Nat.le_of_ble_eq_true rfl, Nat.le_of_ble_eq_true rfl⟩ (Nat.le_of_ble_eq_true rfl) rfl dX0_mostOut_24 (fun r3 I2 => ?_)
    refine J_istore_n (pc := 27) (ls' := [some (.ref 84), some (.ref 3), some (.int x2), some (.int r3)]) dX0_mostOut_27 (Nat.le_of_ble_eq_true rfl) rfl rfl ?_
    refine J_iload_n (pc := 28) (x := r3) dX0_mostOut_28 rfl ?_
    refine J_iconst (pc := 29) (v := (4 : Int32)) dX0_mostOut_29 (by decide) ?_
    refine J_idiv (pc := 30) dX0_mostOut_30 (by decide) ?_
    refine J_iconst (pc := 31) (v := (1 : Int32)) dX0_mostOut_31 (by decide) ?_
    refine J_isub (pc := 32) dX0_mostOut_32 ?_
    exact J_iret (pc := 33) dX0_mostOut_33
abbrev mu_X0_moved_84_3 (G : Gt) : Mt (Int32 × Mem) := mi G cX0_moved 5 yX0_moved.cls (some .int) 2 47
def f_X0_moved_84_3 (x2 : Int32) (x3 : Int32) (I : Mem) : Option (Int32 × Mem) :=
  bI (f_X0_out_84_3 x2 x3 I) fun r2 I1 => bI (f_X0_mostOut_84_3 x2 I1) fun r4 I3 => some ((((I 4 1) * r2) - (((I 4 1) * r4) / (2 : Int32))), I3)
set_option maxRecDepth 100000 in
theorem c_X0_moved_84_3 {G : Gt} (hG : Gok G) (hn : Gn G) (x2 : Int32) (x3 : Int32) (I : Mem) : Cti G yX0_moved cX0_moved 5 (some .int) 2 47 [.ref 84, .ref 3, .int x2, .int x3] I (f_X0_moved_84_3 x2 x3 I) := by
  refine Cti.of (ls := [some (.ref 84), some (.ref 3), some (.int x2), some (.int x3), none]) 1 hG (by decide) rfl (Nat.le_of_ble_eq_true rfl) ?_
  unfold f_X0_moved_84_3
  refine J_aload_n (pc := 0) (x := 3) dX0_moved_0 rfl ?_
  refine J_get (pc := 1) (t := 7) (k := 1) (.ref 4) (ok_c hn 3 (by decide) rfl) (by decide) rfl ingX7 (by decide) wd_207 rfl dX0_moved_1 ?_
  refine J_iconst (pc := 4) (v := (1 : Int32)) dX0_moved_4 (by decide) ?_
  refine J_ild (pc := 5) (t := 11) (k := 1) (ok_c hn 4 (by decide) rfl) iT_11 (inb_in (by decide)) (by decide) dX0_moved_5 ?_
  refine J_istore (pc := 6) (ls' := [some (.ref 84), some (.ref 3), some (.int x2), some (.int x3), some (.int (I 4 1))]) dX0_moved_6 (Nat.le_of_ble_eq_true rfl) rfl rfl ?_
  refine J_iload (pc := 8) (x := (I 4 1)) dX0_moved_8 rfl ?_
  refine J_aload_n (pc := 10) (x := 84) dX0_moved_10 rfl ?_
  refine J_aload_n (pc := 11) (x := 3) dX0_moved_11 rfl ?_
  refine J_iload_n (pc := 12) (x := x2) dX0_moved_12 rfl ?_
  refine J_iload_n (pc := 13) (x := x3) dX0_moved_13 rfl ?_
  refine J_callVi (pc := 14) (t := 0) (as := [.ref 3, .int x2, .int x3]) (st := [.int (I 4 1)]) (c_X0_out_84_3 hG hn x2 x3 I) (ok_c hn 84 (by decide) rfl) (by decide) rfl (cw_RX0_66 rfl) wd_397 wd_396 rfl ⟨Nat.le_of_ble_eq_true rfl, Nat.le_of_ble_eq_true rfl, Nat.le_of_ble_eq_true rfl, Nat.le_of_ble_eq_true rfl⟩ (Nat.le_of_ble_eq_true rfl) rfl dX0_moved_14 (fun r2 I1 => ?_)
  refine J_imul (pc := 17) dX0_moved_17 ?_
  refine J_iload (pc := 18) (x := (I 4 1)) dX0_moved_18 rfl ?_
  refine J_aload_n (pc := 20) (x := 84) dX0_moved_20 rfl ?_
  refine J_aload_n (pc := 21) (x := 3) dX0_moved_21 rfl ?_
  refine J_iload_n (pc := 22) (x := x2) dX0_moved_22 rfl ?_
  refine J_callVi (pc := 23) (t := 0) (as := [.ref 3, .int x2]) (st := [.int (I 4 1), .int ((I 4 1) * r2)]) (c_X0_mostOut_84_3 hG hn x2 I1) (ok_c hn 84 (by decide) rfl) (by decide) rfl (cw_RX0_69 rfl) wd_403 wd_402 rfl ⟨Nat.le_of_ble_eq_true rfl, Nat.le_of_ble_eq_true rfl, Nat.le_of_ble_eq_true rfl, Nat.le_of_ble_eq_true rfl⟩ (Nat.le_of_ble_eq_true rfl) rfl dX0_moved_23 (fun r4 I3 => ?_)
  refine J_imul (pc := 26) dX0_moved_26 ?_
  refine J_iconst (pc := 27) (v := (2 : Int32)) dX0_moved_27 (by decide) ?_
  refine J_idiv (pc := 28) dX0_moved_28 (by decide) ?_
  refine J_isub (pc := 29) dX0_moved_29 ?_
  exact J_iret (pc := 30) dX0_moved_30
abbrev mu_X8_isMissing (G : Gt) : Mt (Int32 × Mem) := mi G cX8_isMissing 2 yX8_isMissing.cls (some .boolean) 0 0
def f_X8_isMissing (x1 : Int32) (I : Mem) : Option (Int32 × Mem) :=
  (if x1 < (1 : Int32) then some ((0 : Int32), I) else (if (I 4 0) < x1 then some ((0 : Int32), I) else ck (inb x1 433) <| ck (inb (I 87 (tn x1)) 100) <| (if (I 8 (tn (I 87 (tn x1)))) = (1 : Int32) then some ((1 : Int32), I) else some ((0 : Int32), I))))
set_option maxRecDepth 100000 in
theorem c_X8_isMissing {G : Gt} (hG : Gok G) (hn : Gn G) (x1 : Int32) (I : Mem) : Cti G yX8_isMissing cX8_isMissing 2 (some .boolean) 0 0 [.ref 0, .int x1] I (f_X8_isMissing x1 I) := by
  refine Cti.of (ls := [some (.ref 0), some (.int x1)]) 0 hG (by decide) rfl (Nat.le_of_ble_eq_true rfl) ?_
  unfold f_X8_isMissing
  refine J_iload_n (pc := 0) (x := x1) dX8_isMissing_0 rfl ?_
  refine J_iconst (pc := 1) (v := (1 : Int32)) dX8_isMissing_1 (by decide) ?_
  refine J_icmp_lt (pc := 2) (tgt := 43) dX8_isMissing_2 (by decide) ?_ ?_
  · refine J_iconst (pc := 43) (v := (0 : Int32)) dX8_isMissing_43 (by decide) ?_
    exact J_zret (pc := 44) rfl dX8_isMissing_44
  · refine J_iload_n (pc := 5) (x := x1) dX8_isMissing_5 rfl ?_
    refine J_aload_n (pc := 6) (x := 0) dX8_isMissing_6 rfl ?_
    refine J_get (pc := 7) (t := 8) (k := 1) (.ref 3) (ok_c hn 0 (by decide) rfl) (by decide) rfl ingX8 (by decide) wd_72 rfl dX8_isMissing_7 ?_
    refine J_get (pc := 10) (t := 7) (k := 1) (.ref 4) (ok_c hn 3 (by decide) rfl) (by decide) rfl ingX7 (by decide) wd_238 rfl dX8_isMissing_10 ?_
    refine J_iconst (pc := 13) (v := (0 : Int32)) dX8_isMissing_13 (by decide) ?_
    refine J_ild (pc := 14) (t := 11) (k := 0) (ok_c hn 4 (by decide) rfl) iT_11 (inb_in (by decide)) (by decide) dX8_isMissing_14 ?_
    refine J_icmp_gt (pc := 15) (tgt := 43) dX8_isMissing_15 (by decide) ?_ ?_
    · refine J_iconst (pc := 43) (v := (0 : Int32)) dX8_isMissing_43 (by decide) ?_
      exact J_zret (pc := 44) rfl dX8_isMissing_44
    · refine J_aload_n (pc := 18) (x := 0) dX8_isMissing_18 rfl ?_
      refine J_get (pc := 19) (t := 8) (k := 1) (.ref 3) (ok_c hn 0 (by decide) rfl) (by decide) rfl ingX8 (by decide) wd_72 rfl dX8_isMissing_19 ?_
      refine J_get (pc := 22) (t := 7) (k := 5) (.ref 8) (ok_c hn 3 (by decide) rfl) (by decide) rfl ingX7 (by decide) wd_267 rfl dX8_isMissing_22 ?_
      refine J_aload_n (pc := 25) (x := 0) dX8_isMissing_25 rfl ?_
      refine J_get (pc := 26) (t := 8) (k := 7) (.ref 84) (ok_c hn 0 (by decide) rfl) (by decide) rfl ingX8 (by decide) wd_191 rfl dX8_isMissing_26 ?_
      refine J_get (pc := 29) (t := 0) (k := 4) (.ref 87) (ok_c hn 84 (by decide) rfl) (by decide) rfl ingX0 (by decide) wd_392 rfl dX8_isMissing_29 ?_
      refine J_iload_n (pc := 32) (x := x1) dX8_isMissing_32 rfl ?_
      refine J_ck (fun hc1 => ?_)
      refine J_ild (pc := 33) (t := 26) (k := (tn x1)) (ok_c hn 87 (by decide) rfl) iT_26 (inb_in hc1) rfl dX8_isMissing_33 ?_
      refine J_ck (fun hc2 => ?_)
      refine J_ild (pc := 34) (t := 15) (k := (tn (I 87 (tn x1)))) (ok_c hn 8 (by decide) rfl) iT_15 (inb_in hc2) rfl dX8_isMissing_34 ?_
      refine J_iconst (pc := 35) (v := (1 : Int32)) dX8_isMissing_35 (by decide) ?_
      refine J_icmp_ne (pc := 36) (tgt := 43) dX8_isMissing_36 (by decide) ?_ ?_
      · refine J_iconst (pc := 39) (v := (1 : Int32)) dX8_isMissing_39 (by decide) ?_
        refine J_goto (pc := 40) (tgt := 44) dX8_isMissing_40 (by decide) ?_
        exact J_zret (pc := 44) rfl dX8_isMissing_44
      · refine J_iconst (pc := 43) (v := (0 : Int32)) dX8_isMissing_43 (by decide) ?_
        exact J_zret (pc := 44) rfl dX8_isMissing_44
