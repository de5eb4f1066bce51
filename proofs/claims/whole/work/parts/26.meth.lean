abbrev mu_X9_count (G : Gt) : Mt (Int32 × Mem) := mi G cX9_count 2 yX9_count.cls (some .int) 1 22
def f_X9_count (x1 : Int32) (I : Mem) : Option (Int32 × Mem) :=
  (if x1 = (0 : Int32) then some ((I 91 3), I) else (if x1 = (1 : Int32) then some ((I 91 0), I) else (if x1 = (2 : Int32) then some ((I 91 1), I) else (if x1 = (3 : Int32) then some ((I 91 2), I) else (if x1 = (4 : Int32) then bI (f_X9_spoiledMany I) fun r7 I6 => some (r7, I6) else (if x1 = (5 : Int32) then some ((I 89 4), I) else (if x1 = (6 : Int32) then some ((I 89 0), I) else some ((-1 : Int32), I))))))))
set_option maxRecDepth 100000 in
theorem c_X9_count {G : Gt} (hG : Gok G) (hn : gn G = 104) (x1 : Int32) (I : Mem) : Cti G yX9_count cX9_count 2 (some .int) 1 22 [.ref 89, .int x1] I (f_X9_count x1 I) := by
  refine Cti.of (ls := [some (.ref 89), some (.int x1)]) 0 hG (by decide) rfl (Nat.le_of_ble_eq_true rfl) ?_
  unfold f_X9_count
  refine J_iload_n (pc := 0) (x := x1) dX9_count_0 rfl ?_
  refine J_ite (fun hq1 => ?_) (fun hq1 => ?_)
  · refine J_tblIn (pc := 1) (off := 43) (tgt := 44) dX9_count_1 (by rw [hq1]; decide) (by rw [hq1]; decide) (by rw [hq1]; decide) (by decide) ?_
    refine J_aload_n (pc := 44) (x := 89) dX9_count_44 rfl ?_
    refine J_get (pc := 45) (t := 9) (k := 2) (.ref 91) (ok_m hn 89 (by decide) rfl) (by decide) rfl ingX9 (by decide) wd_467 rfl dX9_count_45 ?_
    refine J_iconst (pc := 48) (v := (3 : Int32)) dX9_count_48 (by decide) ?_
    refine J_ild (pc := 49) (t := 31) (k := 3) (ok_m hn 91 (by decide) rfl) iT_31 (inb_in (by decide)) (by decide) dX9_count_49 ?_
    exact J_iret (pc := 50) dX9_count_50
  refine J_ite (fun hq2 => ?_) (fun hq2 => ?_)
  · refine J_tblIn (pc := 1) (off := 50) (tgt := 51) dX9_count_1 (by rw [hq2]; decide) (by rw [hq2]; decide) (by rw [hq2]; decide) (by decide) ?_
    refine J_aload_n (pc := 51) (x := 89) dX9_count_51 rfl ?_
    refine J_get (pc := 52) (t := 9) (k := 2) (.ref 91) (ok_m hn 89 (by decide) rfl) (by decide) rfl ingX9 (by decide) wd_467 rfl dX9_count_52 ?_
    refine J_iconst (pc := 55) (v := (0 : Int32)) dX9_count_55 (by decide) ?_
    refine J_ild (pc := 56) (t := 31) (k := 0) (ok_m hn 91 (by decide) rfl) iT_31 (inb_in (by decide)) (by decide) dX9_count_56 ?_
    exact J_iret (pc := 57) dX9_count_57
  refine J_ite (fun hq3 => ?_) (fun hq3 => ?_)
  · refine J_tblIn (pc := 1) (off := 57) (tgt := 58) dX9_count_1 (by rw [hq3]; decide) (by rw [hq3]; decide) (by rw [hq3]; decide) (by decide) ?_
    refine J_aload_n (pc := 58) (x := 89) dX9_count_58 rfl ?_
    refine J_get (pc := 59) (t := 9) (k := 2) (.ref 91) (ok_m hn 89 (by decide) rfl) (by decide) rfl ingX9 (by decide) wd_467 rfl dX9_count_59 ?_
    refine J_iconst (pc := 62) (v := (1 : Int32)) dX9_count_62 (by decide) ?_
    refine J_ild (pc := 63) (t := 31) (k := 1) (ok_m hn 91 (by decide) rfl) iT_31 (inb_in (by decide)) (by decide) dX9_count_63 ?_
    exact J_iret (pc := 64) dX9_count_64
  refine J_ite (fun hq4 => ?_) (fun hq4 => ?_)
  · refine J_tblIn (pc := 1) (off := 64) (tgt := 65) dX9_count_1 (by rw [hq4]; decide) (by rw [hq4]; decide) (by rw [hq4]; decide) (by decide) ?_
    refine J_aload_n (pc := 65) (x := 89) dX9_count_65 rfl ?_
    refine J_get (pc := 66) (t := 9) (k := 2) (.ref 91) (ok_m hn 89 (by decide) rfl) (by decide) rfl ingX9 (by decide) wd_467 rfl dX9_count_66 ?_
    refine J_iconst (pc := 69) (v := (2 : Int32)) dX9_count_69 (by decide) ?_
    refine J_ild (pc := 70) (t := 31) (k := 2) (ok_m hn 91 (by decide) rfl) iT_31 (inb_in (by decide)) (by decide) dX9_count_70 ?_
    exact J_iret (pc := 71) dX9_count_71
  refine J_ite (fun hq5 => ?_) (fun hq5 => ?_)
  · refine J_tblIn (pc := 1) (off := 71) (tgt := 72) dX9_count_1 (by rw [hq5]; decide) (by rw [hq5]; decide) (by rw [hq5]; decide) (by decide) ?_
    refine J_aload_n (pc := 72) (x := 89) dX9_count_72 rfl ?_
    refine J_callVi (pc := 73) (t := 9) (as := []) (st := []) (c_X9_spoiledMany hG hn I) (ok_m hn 89 (by decide) rfl) (by decide) rfl (cw_RX9_221 rfl) wd_513 wd_512 rfl ⟨Nat.le_of_ble_eq_true rfl, Nat.le_of_ble_eq_true rfl, Nat.le_of_ble_eq_true rfl, Nat.le_of_ble_eq_true rfl⟩ (Nat.le_of_ble_eq_true rfl) rfl dX9_count_73 (fun r7 I6 => ?_)
    exact J_iret (pc := 76) dX9_count_76
  refine J_ite (fun hq8 => ?_) (fun hq8 => ?_)
  · refine J_tblIn (pc := 1) (off := 76) (tgt := 77) dX9_count_1 (by rw [hq8]; decide) (by rw [hq8]; decide) (by rw [hq8]; decide) (by decide) ?_
    refine J_aload_n (pc := 77) (x := 89) dX9_count_77 rfl ?_
    refine J_get (pc := 78) (t := 9) (k := 4) (.int (I 89 4)) (ok_m hn 89 (by decide) rfl) (by decide) rfl ingX9 (by decide) wd_468 rfl dX9_count_78 ?_
    exact J_iret (pc := 81) dX9_count_81
  refine J_ite (fun hq9 => ?_) (fun hq9 => ?_)
  · refine J_tblIn (pc := 1) (off := 81) (tgt := 82) dX9_count_1 (by rw [hq9]; decide) (by rw [hq9]; decide) (by rw [hq9]; decide) (by decide) ?_
    refine J_aload_n (pc := 82) (x := 89) dX9_count_82 rfl ?_
    refine J_get (pc := 83) (t := 9) (k := 0) (.int (I 89 0)) (ok_m hn 89 (by decide) rfl) (by decide) rfl ingX9 (by decide) wd_429 rfl dX9_count_83 ?_
    exact J_iret (pc := 86) dX9_count_86
  refine J_tblOut (pc := 1) (tgt := 87) dX9_count_1 (by have e0 := ne_int hq1 (show ((0 : Int32)).toInt = 0 by decide); have e1 := ne_int hq2 (show ((1 : Int32)).toInt = 1 by decide); have e2 := ne_int hq3 (show ((2 : Int32)).toInt = 2 by decide); have e3 := ne_int hq4 (show ((3 : Int32)).toInt = 3 by decide); have e4 := ne_int hq5 (show ((4 : Int32)).toInt = 4 by decide); have e5 := ne_int hq8 (show ((5 : Int32)).toInt = 5 by decide); have e6 := ne_int hq9 (show ((6 : Int32)).toInt = 6 by decide); omega) (by decide) ?_
  refine J_iconst (pc := 87) (v := (-1 : Int32)) dX9_count_87 (by decide) ?_
  exact J_iret (pc := 88) dX9_count_88
