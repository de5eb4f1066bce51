abbrev mu_X8_book (G : Gt) : Mt (Int32 × Mem) := mi G cX8_book 6 yX8_book.cls (some .int) 4 84
def f_X8_book (x1 : Int32) (x2 : Int32) (I : Mem) : Option (Int32 × Mem) :=
  (if x1 < (1 : Int32) then some ((-1 : Int32), I) else (if x1 ≤ (I 84 1) then ck (inb x1 433) <| ck (inb x1 433) <| ck (inb (I 87 (tn x1)) 100) <| ck (inb (I 85 (tn (I 87 (tn x1)))) 4) <| (if x2 = (0 : Int32) then some ((I 87 (tn x1)), I) else (if x2 = (1 : Int32) then some ((I 88 (tn x1)), I) else (if x2 = (2 : Int32) then bI (f_X5_sideOf (54 + 4 * (tn (I 85 (tn (I 87 (tn x1)))))) (I 88 (tn x1)) I) fun r9 I8 => some (r9, I8) else (if x2 = (3 : Int32) then bI (f_X5_columnOf (54 + 4 * (tn (I 85 (tn (I 87 (tn x1)))))) (I 88 (tn x1)) I) fun r12 I11 => some (r12, I11) else (if x2 = (4 : Int32) then bI (f_X5_rowOf (54 + 4 * (tn (I 85 (tn (I 87 (tn x1)))))) (I 88 (tn x1)) I) fun r15 I14 => some (r15, I14) else (if x2 = (5 : Int32) then bI (f_X5_isOverturned (54 + 4 * (tn (I 85 (tn (I 87 (tn x1)))))) (I 88 (tn x1)) I) fun r18 I17 => some (r18, I17) else (if x2 = (6 : Int32) then bI (f_X0_out_84_3 (I 87 (tn x1)) (I 88 (tn x1)) I) fun r21 I20 => some (r21, I20) else (if x2 = (7 : Int32) then bI (f_X0_moved_84_3 (I 87 (tn x1)) (I 88 (tn x1)) I) fun r24 I23 => some (((100000 : Int32) + r24), I23) else (if x2 = (8 : Int32) then bI (f_X8_isMissing x1 I) fun r27 I26 => (if r27 = 0 then some ((0 : Int32), I26) else some ((1 : Int32), I26)) else some ((-1 : Int32), I)))))))))) else some ((-1 : Int32), I)))
set_option maxRecDepth 100000 in
theorem c_X8_book {G : Gt} (hG : Gok G) (hn : Gn G) (x1 : Int32) (x2 : Int32) (I : Mem) : Cti G yX8_book cX8_book 6 (some .int) 4 84 [.ref 0, .int x1, .int x2] I (f_X8_book x1 x2 I) := by
  refine Cti.of (ls := [some (.ref 0), some (.int x1), some (.int x2), none, none, none]) 3 hG (by decide) rfl (Nat.le_of_ble_eq_true rfl) ?_
  unfold f_X8_book
  refine J_iload_n (pc := 0) (x := x1) dX8_book_0 rfl ?_
  refine J_iconst (pc := 1) (v := (1 : Int32)) dX8_book_1 (by decide) ?_
  refine J_icmp_lt (pc := 2) (tgt := 16) dX8_book_2 (by decide) ?_ ?_
  · refine J_iconst (pc := 16) (v := (-1 : Int32)) dX8_book_16 (by decide) ?_
    exact J_iret (pc := 17) dX8_book_17
  · refine J_iload_n (pc := 5) (x := x1) dX8_book_5 rfl ?_
    refine J_aload_n (pc := 6) (x := 0) dX8_book_6 rfl ?_
    refine J_get (pc := 7) (t := 8) (k := 7) (.ref 84) (ok_c hn 0 (by decide) rfl) (by decide) rfl ingX8 (by decide) wd_191 rfl dX8_book_7 ?_
    refine J_get (pc := 10) (t := 0) (k := 1) (.int (I 84 1)) (ok_c hn 84 (by decide) rfl) (by decide) rfl ingX0 (by decide) wd_389 rfl dX8_book_10 ?_
    refine J_icmp_le (pc := 13) (tgt := 18) dX8_book_13 (by decide) ?_ ?_
    · refine J_aload_n (pc := 18) (x := 0) dX8_book_18 rfl ?_
      refine J_get (pc := 19) (t := 8) (k := 7) (.ref 84) (ok_c hn 0 (by decide) rfl) (by decide) rfl ingX8 (by decide) wd_191 rfl dX8_book_19 ?_
      refine J_get (pc := 22) (t := 0) (k := 4) (.ref 87) (ok_c hn 84 (by decide) rfl) (by decide) rfl ingX0 (by decide) wd_392 rfl dX8_book_22 ?_
      refine J_iload_n (pc := 25) (x := x1) dX8_book_25 rfl ?_
      refine J_ck (fun hc1 => ?_)
      refine J_ild (pc := 26) (t := 26) (k := (tn x1)) (ok_c hn 87 (by decide) rfl) iT_26 (inb_in hc1) rfl dX8_book_26 ?_
      refine J_istore_n (pc := 27) (ls' := [some (.ref 0), some (.int x1), some (.int x2), some (.int (I 87 (tn x1))), none, none]) dX8_book_27 (Nat.le_of_ble_eq_true rfl) rfl rfl ?_
      refine J_aload_n (pc := 28) (x := 0) dX8_book_28 rfl ?_
      refine J_get (pc := 29) (t := 8) (k := 7) (.ref 84) (ok_c hn 0 (by decide) rfl) (by decide) rfl ingX8 (by decide) wd_191 rfl dX8_book_29 ?_
      refine J_get (pc := 32) (t := 0) (k := 5) (.ref 88) (ok_c hn 84 (by decide) rfl) (by decide) rfl ingX0 (by decide) wd_393 rfl dX8_book_32 ?_
      refine J_iload_n (pc := 35) (x := x1) dX8_book_35 rfl ?_
      refine J_ck (fun hc2 => ?_)
      refine J_ild (pc := 36) (t := 27) (k := (tn x1)) (ok_c hn 88 (by decide) rfl) iT_27 (inb_in hc2) rfl dX8_book_36 ?_
      refine J_istore (pc := 37) (ls' := [some (.ref 0), some (.int x1), some (.int x2), some (.int (I 87 (tn x1))), some (.int (I 88 (tn x1))), none]) dX8_book_37 (Nat.le_of_ble_eq_true rfl) rfl rfl ?_
      refine J_aload_n (pc := 39) (x := 0) dX8_book_39 rfl ?_
      refine J_get (pc := 40) (t := 8) (k := 4) (.ref 53) (ok_c hn 0 (by decide) rfl) (by decide) rfl ingX8 (by decide) wd_82 rfl dX8_book_40 ?_
      refine J_aload_n (pc := 43) (x := 0) dX8_book_43 rfl ?_
      refine J_get (pc := 44) (t := 8) (k := 7) (.ref 84) (ok_c hn 0 (by decide) rfl) (by decide) rfl ingX8 (by decide) wd_191 rfl dX8_book_44 ?_
      refine J_get (pc := 47) (t := 0) (k := 2) (.ref 85) (ok_c hn 84 (by decide) rfl) (by decide) rfl ingX0 (by decide) wd_394 rfl dX8_book_47 ?_
      refine J_iload_n (pc := 50) (x := (I 87 (tn x1))) dX8_book_50 rfl ?_
      refine J_ck (fun hc3 => ?_)
      refine J_ild (pc := 51) (t := 24) (k := (tn (I 87 (tn x1)))) (ok_c hn 85 (by decide) rfl) iT_24 (inb_in hc3) rfl dX8_book_51 ?_
      refine J_ck (fun hc4 => ?_)
      refine J_sald (pc := 52) (ok_c hn 53 (by decide) rfl) (inb_in hc4) dX8_book_52 ?_
      refine J_astore (pc := 53) (ls' := [some (.ref 0), some (.int x1), some (.int x2), some (.int (I 87 (tn x1))), some (.int (I 88 (tn x1))), some (.ref (54 + 4 * (tn (I 85 (tn (I 87 (tn x1)))))))]) dX8_book_53 (Nat.le_of_ble_eq_true rfl) rfl rfl ?_
      refine J_iload_n (pc := 55) (x := x2) dX8_book_55 rfl ?_
      refine J_ite (fun hq5 => ?_) (fun hq5 => ?_)
      · refine J_tblIn (pc := 56) (off := 52) (tgt := 108) dX8_book_56 (by rw [hq5]; decide) (by rw [hq5]; decide) (by rw [hq5]; decide) (by decide) ?_
        refine J_iload_n (pc := 108) (x := (I 87 (tn x1))) dX8_book_108 rfl ?_
        exact J_iret (pc := 109) dX8_book_109
      refine J_ite (fun hq6 => ?_) (fun hq6 => ?_)
      · refine J_tblIn (pc := 56) (off := 54) (tgt := 110) dX8_book_56 (by rw [hq6]; decide) (by rw [hq6]; decide) (by rw [hq6]; decide) (by decide) ?_
        refine J_iload (pc := 110) (x := (I 88 (tn x1))) dX8_book_110 rfl ?_
        exact J_iret (pc := 112) dX8_book_112
      refine J_ite (fun hq7 => ?_) (fun hq7 => ?_)
      · refine J_tblIn (pc := 56) (off := 57) (tgt := 113) dX8_book_56 (by rw [hq7]; decide) (by rw [hq7]; decide) (by rw [hq7]; decide) (by decide) ?_
        refine J_aload (pc := 113) (x := (54 + 4 * (tn (I 85 (tn (I 87 (tn x1))))))) dX8_book_113 rfl ?_
        refine J_iload (pc := 115) (x := (I 88 (tn x1))) dX8_book_115 rfl ?_
        refine J_callVi (pc := 117) (t := 5) (as := [.int (I 88 (tn x1))]) (st := []) (c_X5_sideOf hG hn (54 + 4 * (tn (I 85 (tn (I 87 (tn x1)))))) (I 88 (tn x1)) (ok_sheet hn hc4) I) (ok_sheet hn hc4) (by decide) rfl (cw_RX8_168 rfl) wd_308 wd_307 rfl ⟨Nat.le_of_ble_eq_true rfl, Nat.le_of_ble_eq_true rfl, Nat.le_of_ble_eq_true rfl, Nat.le_of_ble_eq_true rfl⟩ (Nat.le_of_ble_eq_true rfl) rfl dX8_book_117 (fun r9 I8 => ?_)
        exact J_iret (pc := 120) dX8_book_120
      refine J_ite (fun hq10 => ?_) (fun hq10 => ?_)
      · refine J_tblIn (pc := 56) (off := 65) (tgt := 121) dX8_book_56 (by rw [hq10]; decide) (by rw [hq10]; decide) (by rw [hq10]; decide) (by decide) ?_
        refine J_aload (pc := 121) (x := (54 + 4 * (tn (I 85 (tn (I 87 (tn x1))))))) dX8_book_121 rfl ?_
        refine J_iload (pc := 123) (x := (I 88 (tn x1))) dX8_book_123 rfl ?_
        refine J_callVi (pc := 125) (t := 5) (as := [.int (I 88 (tn x1))]) (st := []) (c_X5_columnOf hG hn (54 + 4 * (tn (I 85 (tn (I 87 (tn x1)))))) (I 88 (tn x1)) (ok_sheet hn hc4) I) (ok_sheet hn hc4) (by decide) rfl (cw_RX8_171 rfl) wd_312 wd_311 rfl ⟨Nat.le_of_ble_eq_true rfl, Nat.le_of_ble_eq_true rfl, Nat.le_of_ble_eq_true rfl, Nat.le_of_ble_eq_true rfl⟩ (Nat.le_of_ble_eq_true rfl) rfl dX8_book_125 (fun r12 I11 => ?_)
        exact J_iret (pc := 128) dX8_book_128
      refine J_ite (fun hq13 => ?_) (fun hq13 => ?_)
      · refine J_tblIn (pc := 56) (off := 73) (tgt := 129) dX8_book_56 (by rw [hq13]; decide) (by rw [hq13]; decide) (by rw [hq13]; decide) (by decide) ?_
        refine J_aload (pc := 129) (x := (54 + 4 * (tn (I 85 (tn (I 87 (tn x1))))))) dX8_book_129 rfl ?_
        refine J_iload (pc := 131) (x := (I 88 (tn x1))) dX8_book_131 rfl ?_
        refine J_callVi (pc := 133) (t := 5) (as := [.int (I 88 (tn x1))]) (st := []) (c_X5_rowOf hG hn (54 + 4 * (tn (I 85 (tn (I 87 (tn x1)))))) (I 88 (tn x1)) (ok_sheet hn hc4) I) (ok_sheet hn hc4) (by decide) rfl (cw_RX8_174 rfl) wd_316 wd_315 rfl ⟨Nat.le_of_ble_eq_true rfl, Nat.le_of_ble_eq_true rfl, Nat.le_of_ble_eq_true rfl, Nat.le_of_ble_eq_true rfl⟩ (Nat.le_of_ble_eq_true rfl) rfl dX8_book_133 (fun r15 I14 => ?_)
        exact J_iret (pc := 136) dX8_book_136
      refine J_ite (fun hq16 => ?_) (fun hq16 => ?_)
      · refine J_tblIn (pc := 56) (off := 81) (tgt := 137) dX8_book_56 (by rw [hq16]; decide) (by rw [hq16]; decide) (by rw [hq16]; decide) (by decide) ?_
        refine J_aload (pc := 137) (x := (54 + 4 * (tn (I 85 (tn (I 87 (tn x1))))))) dX8_book_137 rfl ?_
        refine J_iload (pc := 139) (x := (I 88 (tn x1))) dX8_book_139 rfl ?_
        refine J_callVi (pc := 141) (t := 5) (as := [.int (I 88 (tn x1))]) (st := []) (c_X5_isOverturned hG hn (54 + 4 * (tn (I 85 (tn (I 87 (tn x1)))))) (I 88 (tn x1)) (ok_sheet hn hc4) I) (ok_sheet hn hc4) (by decide) rfl (cw_RX8_177 rfl) wd_320 wd_319 rfl ⟨Nat.le_of_ble_eq_true rfl, Nat.le_of_ble_eq_true rfl, Nat.le_of_ble_eq_true rfl, Nat.le_of_ble_eq_true rfl⟩ (Nat.le_of_ble_eq_true rfl) rfl dX8_book_141 (fun r18 I17 => ?_)
        exact J_iret (pc := 144) dX8_book_144
      refine J_ite (fun hq19 => ?_) (fun hq19 => ?_)
      · refine J_tblIn (pc := 56) (off := 89) (tgt := 145) dX8_book_56 (by rw [hq19]; decide) (by rw [hq19]; decide) (by rw [hq19]; decide) (by decide) ?_
        refine J_aload_n (pc := 145) (x := 0) dX8_book_145 rfl ?_
        refine J_get (pc := 146) (t := 8) (k := 7) (.ref 84) (ok_c hn 0 (by decide) rfl) (by decide) rfl ingX8 (by decide) wd_191 rfl dX8_book_146 ?_
        refine J_aload_n (pc := 149) (x := 0) dX8_book_149 rfl ?_
        refine J_get (pc := 150) (t := 8) (k := 1) (.ref 3) (ok_c hn 0 (by decide) rfl) (by decide) rfl ingX8 (by decide) wd_72 rfl dX8_book_150 ?_
        refine J_iload_n (pc := 153) (x := (I 87 (tn x1))) dX8_book_153 rfl ?_
        refine J_iload (pc := 154) (x := (I 88 (tn x1))) dX8_book_154 rfl ?_
        refine J_callVi (pc := 156) (t := 0) (as := [.ref 3, .int (I 87 (tn x1)), .int (I 88 (tn x1))]) (st := []) (c_X0_out_84_3 hG hn (I 87 (tn x1)) (I 88 (tn x1)) I) (ok_c hn 84 (by decide) rfl) (by decide) rfl (cw_RX8_224 rfl) wd_397 wd_396 rfl ⟨Nat.le_of_ble_eq_true rfl, Nat.le_of_ble_eq_true rfl, Nat.le_of_ble_eq_true rfl, Nat.le_of_ble_eq_true rfl⟩ (Nat.le_of_ble_eq_true rfl) rfl dX8_book_156 (fun r21 I20 => ?_)
        exact J_iret (pc := 159) dX8_book_159
      refine J_ite (fun hq22 => ?_) (fun hq22 => ?_)
      · refine J_tblIn (pc := 56) (off := 104) (tgt := 160) dX8_book_56 (by rw [hq22]; decide) (by rw [hq22]; decide) (by rw [hq22]; decide) (by decide) ?_
        refine J_ldc (pc := 160) (v := (100000 : Int32)) wd_400 dX8_book_160 ?_
        refine J_aload_n (pc := 162) (x := 0) dX8_book_162 rfl ?_
        refine J_get (pc := 163) (t := 8) (k := 7) (.ref 84) (ok_c hn 0 (by decide) rfl) (by decide) rfl ingX8 (by decide) wd_191 rfl dX8_book_163 ?_
        refine J_aload_n (pc := 166) (x := 0) dX8_book_166 rfl ?_
        refine J_get (pc := 167) (t := 8) (k := 1) (.ref 3) (ok_c hn 0 (by decide) rfl) (by decide) rfl ingX8 (by decide) wd_72 rfl dX8_book_167 ?_
        refine J_iload_n (pc := 170) (x := (I 87 (tn x1))) dX8_book_170 rfl ?_
        refine J_iload (pc := 171) (x := (I 88 (tn x1))) dX8_book_171 rfl ?_
        refine J_callVi (pc := 173) (t := 0) (as := [.ref 3, .int (I 87 (tn x1)), .int (I 88 (tn x1))]) (st := [.int (100000 : Int32)]) (c_X0_moved_84_3 hG hn (I 87 (tn x1)) (I 88 (tn x1)) I) (ok_c hn 84 (by decide) rfl) (by decide) rfl (cw_RX8_229 rfl) wd_407 wd_406 rfl ⟨Nat.le_of_ble_eq_true rfl, Nat.le_of_ble_eq_true rfl, Nat.le_of_ble_eq_true rfl, Nat.le_of_ble_eq_true rfl⟩ (Nat.le_of_ble_eq_true rfl) rfl dX8_book_173 (fun r24 I23 => ?_)
        refine J_iadd (pc := 176) dX8_book_176 ?_
        exact J_iret (pc := 177) dX8_book_177
      refine J_ite (fun hq25 => ?_) (fun hq25 => ?_)
      · refine J_tblIn (pc := 56) (off := 122) (tgt := 178) dX8_book_56 (by rw [hq25]; decide) (by rw [hq25]; decide) (by rw [hq25]; decide) (by decide) ?_
        refine J_aload_n (pc := 178) (x := 0) dX8_book_178 rfl ?_
        refine J_iload_n (pc := 179) (x := x1) dX8_book_179 rfl ?_
        refine J_callVi (pc := 180) (t := 8) (as := [.int x1]) (st := []) (c_X8_isMissing hG hn x1 I) (ok_c hn 0 (by decide) rfl) (by decide) rfl (cw_RX8_232 rfl) wd_411 wd_410 rfl ⟨Nat.le_of_ble_eq_true rfl, Nat.le_of_ble_eq_true rfl, Nat.le_of_ble_eq_true rfl, Nat.le_of_ble_eq_true rfl⟩ (Nat.le_of_ble_eq_true rfl) rfl dX8_book_180 (fun r27 I26 => ?_)
        refine J_if_eq (pc := 183) (tgt := 190) dX8_book_183 (by decide) ?_ ?_
        · refine J_iconst (pc := 190) (v := (0 : Int32)) dX8_book_190 (by decide) ?_
          exact J_iret (pc := 191) dX8_book_191
        · refine J_iconst (pc := 186) (v := (1 : Int32)) dX8_book_186 (by decide) ?_
          refine J_goto (pc := 187) (tgt := 191) dX8_book_187 (by decide) ?_
          exact J_iret (pc := 191) dX8_book_191
      refine J_tblOut (pc := 56) (tgt := 192) dX8_book_56 (by have e0 := ne_int hq5 (show ((0 : Int32)).toInt = 0 by decide); have e1 := ne_int hq6 (show ((1 : Int32)).toInt = 1 by decide); have e2 := ne_int hq7 (show ((2 : Int32)).toInt = 2 by decide); have e3 := ne_int hq10 (show ((3 : Int32)).toInt = 3 by decide); have e4 := ne_int hq13 (show ((4 : Int32)).toInt = 4 by decide); have e5 := ne_int hq16 (show ((5 : Int32)).toInt = 5 by decide); have e6 := ne_int hq19 (show ((6 : Int32)).toInt = 6 by decide); have e7 := ne_int hq22 (show ((7 : Int32)).toInt = 7 by decide); have e8 := ne_int hq25 (show ((8 : Int32)).toInt = 8 by decide); omega) (by decide) ?_
      refine J_iconst (pc := 192) (v := (-1 : Int32)) dX8_book_192 (by decide) ?_
      exact J_iret (pc := 193) dX8_book_193
    · refine J_iconst (pc := 16) (v := (-1 : Int32)) dX8_book_16 (by decide) ?_
      exact J_iret (pc := 17) dX8_book_17
abbrev mu_X8_number (G : Gt) : Mt (Int32 × Mem) := mi G cX8_number 3 yX8_number.cls (some .int) 2 46
def f_X8_number (x1 : Int32) (x2 : Int32) (I : Mem) : Option (Int32 × Mem) :=
  bI (f_X8_isSheet x1 I) fun r2 I1 => (if r2 = 0 then some ((-1 : Int32), I1) else (if x2 < (1 : Int32) then some ((-1 : Int32), I1) else ck (inb x1 100) <| bI (f_X7_pagesOf (I1 85 (tn x1)) I1) fun r5 I4 => (if x2 ≤ r5 then bI (f_X0_numberOf_84_3 x1 x2 I4) fun r7 I6 => some (r7, I6) else some ((-1 : Int32), I4))))
set_option maxRecDepth 100000 in
theorem c_X8_number {G : Gt} (hG : Gok G) (hn : Gn G) (x1 : Int32) (x2 : Int32) (I : Mem) : Cti G yX8_number cX8_number 3 (some .int) 2 46 [.ref 0, .int x1, .int x2] I (f_X8_number x1 x2 I) := by
  refine Cti.of (ls := [some (.ref 0), some (.int x1), some (.int x2)]) 0 hG (by decide) rfl (Nat.le_of_ble_eq_true rfl) ?_
  unfold f_X8_number
  refine J_aload_n (pc := 0) (x := 0) dX8_number_0 rfl ?_
  refine J_iload_n (pc := 1) (x := x1) dX8_number_1 rfl ?_
  refine J_callVi (pc := 2) (t := 8) (as := [.int x1]) (st := []) (c_X8_isSheet hG hn x1 I) (ok_c hn 0 (by decide) rfl) (by decide) rfl (cw_RX8_121 rfl) wd_264 wd_263 rfl ⟨Nat.le_of_ble_eq_true rfl, Nat.le_of_ble_eq_true rfl, Nat.le_of_ble_eq_true rfl, Nat.le_of_ble_eq_true rfl⟩ (Nat.le_of_ble_eq_true rfl) rfl dX8_number_2 (fun r2 I1 => ?_)
  refine J_if_eq (pc := 5) (tgt := 33) dX8_number_5 (by decide) ?_ ?_
  · refine J_iconst (pc := 33) (v := (-1 : Int32)) dX8_number_33 (by decide) ?_
    exact J_iret (pc := 34) dX8_number_34
  · refine J_iload_n (pc := 8) (x := x2) dX8_number_8 rfl ?_
    refine J_iconst (pc := 9) (v := (1 : Int32)) dX8_number_9 (by decide) ?_
    refine J_icmp_lt (pc := 10) (tgt := 33) dX8_number_10 (by decide) ?_ ?_
    · refine J_iconst (pc := 33) (v := (-1 : Int32)) dX8_number_33 (by decide) ?_
      exact J_iret (pc := 34) dX8_number_34
    · refine J_iload_n (pc := 13) (x := x2) dX8_number_13 rfl ?_
      refine J_aload_n (pc := 14) (x := 0) dX8_number_14 rfl ?_
      refine J_get (pc := 15) (t := 8) (k := 1) (.ref 3) (ok_c hn 0 (by decide) rfl) (by decide) rfl ingX8 (by decide) wd_72 rfl dX8_number_15 ?_
      refine J_aload_n (pc := 18) (x := 0) dX8_number_18 rfl ?_
      refine J_get (pc := 19) (t := 8) (k := 7) (.ref 84) (ok_c hn 0 (by decide) rfl) (by decide) rfl ingX8 (by decide) wd_191 rfl dX8_number_19 ?_
      refine J_get (pc := 22) (t := 0) (k := 2) (.ref 85) (ok_c hn 84 (by decide) rfl) (by decide) rfl ingX0 (by decide) wd_394 rfl dX8_number_22 ?_
      refine J_iload_n (pc := 25) (x := x1) dX8_number_25 rfl ?_
      refine J_ck (fun hc3 => ?_)
      refine J_ild (pc := 26) (t := 24) (k := (tn x1)) (ok_c hn 85 (by decide) rfl) iT_24 (inb_in hc3) rfl dX8_number_26 ?_
      refine J_callVi (pc := 27) (t := 7) (as := [.int (I1 85 (tn x1))]) (st := [.int x2]) (c_X7_pagesOf hG hn (I1 85 (tn x1)) I1) (ok_c hn 3 (by decide) rfl) (by decide) rfl (cw_RX8_145 rfl) wd_197 wd_196 rfl ⟨Nat.le_of_ble_eq_true rfl, Nat.le_of_ble_eq_true rfl, Nat.le_of_ble_eq_true rfl, Nat.le_of_ble_eq_true rfl⟩ (Nat.le_of_ble_eq_true rfl) rfl dX8_number_27 (fun r5 I4 => ?_)
      refine J_icmp_le (pc := 30) (tgt := 35) dX8_number_30 (by decide) ?_ ?_
      · refine J_aload_n (pc := 35) (x := 0) dX8_number_35 rfl ?_
        refine J_get (pc := 36) (t := 8) (k := 7) (.ref 84) (ok_c hn 0 (by decide) rfl) (by decide) rfl ingX8 (by decide) wd_191 rfl dX8_number_36 ?_
        refine J_aload_n (pc := 39) (x := 0) dX8_number_39 rfl ?_
        refine J_get (pc := 40) (t := 8) (k := 1) (.ref 3) (ok_c hn 0 (by decide) rfl) (by decide) rfl ingX8 (by decide) wd_72 rfl dX8_number_40 ?_
        refine J_iload_n (pc := 43) (x := x1) dX8_number_43 rfl ?_
        refine J_iload_n (pc := 44) (x := x2) dX8_number_44 rfl ?_
        refine J_callVi (pc := 45) (t := 0) (as := [.ref 3, .int x1, .int x2]) (st := []) (c_X0_numberOf_84_3 hG hn x1 x2 I4) (ok_c hn 84 (by decide) rfl) (by decide) rfl (cw_RX8_235 rfl) wd_209 wd_208 rfl ⟨Nat.le_of_ble_eq_true rfl, Nat.le_of_ble_eq_true rfl, Nat.le_of_ble_eq_true rfl, Nat.le_of_ble_eq_true rfl⟩ (Nat.le_of_ble_eq_true rfl) rfl dX8_number_45 (fun r7 I6 => ?_)
        exact J_iret (pc := 48) dX8_number_48
      · refine J_iconst (pc := 33) (v := (-1 : Int32)) dX8_number_33 (by decide) ?_
        exact J_iret (pc := 34) dX8_number_34
abbrev mu_X0_blanksOn_84_3 (G : Gt) : Mt (Int32 × Mem) := mi G cX0_blanksOn 5 yX0_blanksOn.cls (some .int) 2 46
def b_X0_blanksOn_84_3_5 (K46 : Int32 → Mem → Option (Int32 × Mem)) (R : Int32 → Int32 → Int32 → Mem → Option (Int32 × Mem)) (x2 : Int32) (x3 : Int32) (x4 : Int32) (I : Mem) : Option (Int32 × Mem) :=
  ck (inb x2 100) <| bI (f_X7_pagesOf (I 85 (tn x2)) I) fun r3 I2 => (if r3 < x4 then K46 x3 I2 else bI (f_X0_numberOf_84_3 x2 x4 I2) fun r5 I4 => (if r5 ≤ (I4 4 0) then R x2 x3 (x4 + (1 : Int32)) I4 else R x2 (x3 + (1 : Int32)) (x4 + (1 : Int32)) I4))
def l_X0_blanksOn_84_3_5 (K46 : Int32 → Mem → Option (Int32 × Mem)) : Nat → Int32 → Int32 → Int32 → Mem → Option (Int32 × Mem) := fx (b_X0_blanksOn_84_3_5 K46) (fun _ _ _ _ => none)
def f_X0_blanksOn_84_3 (x2 : Int32) (I : Mem) : Option (Int32 × Mem) :=
  l_X0_blanksOn_84_3_5 (fun (z6 : Int32) I7 => some (z6, I7)) fuel x2 (0 : Int32) (1 : Int32) I
set_option maxRecDepth 100000 in
theorem tb_X0_blanksOn_84_3_5 {G : Gt} (hG : Gok G) (hn : Gn G) {K46 : Int32 → Mem → Option (Int32 × Mem)} (hK46 : ∀ (x3 : Int32) (I : Mem), J G (mu_X0_blanksOn_84_3 G) 46 [none, none, none, some (.int x3), none] [] I (K46 x3 I)) {R : Int32 → Int32 → Int32 → Mem → Option (Int32 × Mem)} (hR : ∀ (x2 : Int32) (x3 : Int32) (x4 : Int32) (I : Mem), J G (mu_X0_blanksOn_84_3 G) 5 [some (.ref 84), some (.ref 3), some (.int x2), some (.int x3), some (.int x4)] [] I (R x2 x3 x4 I)) (x2 : Int32) (x3 : Int32) (x4 : Int32) (I : Mem) : J G (mu_X0_blanksOn_84_3 G) 5 [some (.ref 84), some (.ref 3), some (.int x2), some (.int x3), some (.int x4)] [] I (b_X0_blanksOn_84_3_5 K46 R x2 x3 x4 I) := by
  unfold b_X0_blanksOn_84_3_5
  refine J_iload (pc := 5) (x := x4) dX0_blanksOn_5 rfl ?_
  refine J_aload_n (pc := 7) (x := 3) dX0_blanksOn_7 rfl ?_
  refine J_aload_n (pc := 8) (x := 84) dX0_blanksOn_8 rfl ?_
  refine J_get (pc := 9) (t := 0) (k := 2) (.ref 85) (ok_c hn 84 (by decide) rfl) (by decide) rfl ingX0 (by decide) wd_200 rfl dX0_blanksOn_9 ?_
  refine J_iload_n (pc := 12) (x := x2) dX0_blanksOn_12 rfl ?_
  refine J_ck (fun hc1 => ?_)
  refine J_ild (pc := 13) (t := 24) (k := (tn x2)) (ok_c hn 85 (by decide) rfl) iT_24 (inb_in hc1) rfl dX0_blanksOn_13 ?_
  refine J_callVi (pc := 14) (t := 7) (as := [.int (I 85 (tn x2))]) (st := [.int x4]) (c_X7_pagesOf hG hn (I 85 (tn x2)) I) (ok_c hn 3 (by decide) rfl) (by decide) rfl (cw_RX0_41 rfl) wd_197 wd_196 rfl ⟨Nat.le_of_ble_eq_true rfl, Nat.le_of_ble_eq_true rfl, Nat.le_of_ble_eq_true rfl, Nat.le_of_ble_eq_true rfl⟩ (Nat.le_of_ble_eq_true rfl) rfl dX0_blanksOn_14 (fun r3 I2 => ?_)
  refine J_icmp_gt (pc := 17) (tgt := 46) dX0_blanksOn_17 (by decide) ?_ ?_
  · refine J_weak (ls' := [none, none, none, some (.int x3), none]) ⟨rfl, trivial⟩ ?_
    exact hK46 x3 I2
  · refine J_aload_n (pc := 20) (x := 84) dX0_blanksOn_20 rfl ?_
    refine J_aload_n (pc := 21) (x := 3) dX0_blanksOn_21 rfl ?_
    refine J_iload_n (pc := 22) (x := x2) dX0_blanksOn_22 rfl ?_
    refine J_iload (pc := 23) (x := x4) dX0_blanksOn_23 rfl ?_
    refine J_callVi (pc := 25) (t := 0) (as := [.ref 3, .int x2, .int x4]) (st := []) (c_X0_numberOf_84_3 hG hn x2 x4 I2) (ok_c hn 84 (by decide) rfl) (by decide) rfl (cw_RX0_53 rfl) wd_209 wd_208 rfl ⟨Nat.le_of_ble_eq_true rfl, Nat.le_of_ble_eq_true rfl, Nat.le_of_ble_eq_true rfl, Nat.le_of_ble_eq_true rfl⟩ (Nat.le_of_ble_eq_true rfl) rfl dX0_blanksOn_25 (fun r5 I4 => ?_)
    refine J_aload_n (pc := 28) (x := 3) dX0_blanksOn_28 rfl ?_
    refine J_get (pc := 29) (t := 7) (k := 1) (.ref 4) (ok_c hn 3 (by decide) rfl) (by decide) rfl ingX7 (by decide) wd_207 rfl dX0_blanksOn_29 ?_
    refine J_iconst (pc := 32) (v := (0 : Int32)) dX0_blanksOn_32 (by decide) ?_
    refine J_ild (pc := 33) (t := 11) (k := 0) (ok_c hn 4 (by decide) rfl) iT_11 (inb_in (by decide)) (by decide) dX0_blanksOn_33 ?_
    refine J_icmp_le (pc := 34) (tgt := 40) dX0_blanksOn_34 (by decide) ?_ ?_
    · refine J_iinc (pc := 40) (d := (1 : Int32)) (ls' := [some (.ref 84), some (.ref 3), some (.int x2), some (.int x3), some (.int (x4 + (1 : Int32)))]) dX0_blanksOn_40 (by decide) rfl (Nat.le_of_ble_eq_true rfl) rfl rfl ?_
      refine J_goto (pc := 43) (tgt := 5) dX0_blanksOn_43 (by decide) ?_
      exact hR x2 x3 (x4 + (1 : Int32)) I4
    · refine J_iinc (pc := 37) (d := (1 : Int32)) (ls' := [some (.ref 84), some (.ref 3), some (.int x2), some (.int (x3 + (1 : Int32))), some (.int x4)]) dX0_blanksOn_37 (by decide) rfl (Nat.le_of_ble_eq_true rfl) rfl rfl ?_
      refine J_iinc (pc := 40) (d := (1 : Int32)) (ls' := [some (.ref 84), some (.ref 3), some (.int x2), some (.int (x3 + (1 : Int32))), some (.int (x4 + (1 : Int32)))]) dX0_blanksOn_40 (by decide) rfl (Nat.le_of_ble_eq_true rfl) rfl rfl ?_
      refine J_goto (pc := 43) (tgt := 5) dX0_blanksOn_43 (by decide) ?_
      exact hR x2 (x3 + (1 : Int32)) (x4 + (1 : Int32)) I4
theorem tl_X0_blanksOn_84_3_5 {G : Gt} (hG : Gok G) (hn : Gn G) {K46 : Int32 → Mem → Option (Int32 × Mem)} (hK46 : ∀ (x3 : Int32) (I : Mem), J G (mu_X0_blanksOn_84_3 G) 46 [none, none, none, some (.int x3), none] [] I (K46 x3 I)) (n : Nat) : ∀ (x2 : Int32) (x3 : Int32) (x4 : Int32) (I : Mem), J G (mu_X0_blanksOn_84_3 G) 5 [some (.ref 84), some (.ref 3), some (.int x2), some (.int x3), some (.int x4)] [] I (l_X0_blanksOn_84_3_5 K46 n x2 x3 x4 I) := by
  induction n with
  | zero => intro x2 x3 x4 I; exact J_none
  | succ n ih => intro x2 x3 x4 I; exact tb_X0_blanksOn_84_3_5 hG hn hK46 ih x2 x3 x4 I
set_option maxRecDepth 100000 in
theorem c_X0_blanksOn_84_3 {G : Gt} (hG : Gok G) (hn : Gn G) (x2 : Int32) (I : Mem) : Cti G yX0_blanksOn cX0_blanksOn 5 (some .int) 2 46 [.ref 84, .ref 3, .int x2] I (f_X0_blanksOn_84_3 x2 I) := by
  refine Cti.of (ls := [some (.ref 84), some (.ref 3), some (.int x2), none, none]) 2 hG (by decide) rfl (Nat.le_of_ble_eq_true rfl) ?_
  unfold f_X0_blanksOn_84_3
  refine J_iconst (pc := 0) (v := (0 : Int32)) dX0_blanksOn_0 (by decide) ?_
  refine J_istore_n (pc := 1) (ls' := [some (.ref 84), some (.ref 3), some (.int x2), some (.int (0 : Int32)), none]) dX0_blanksOn_1 (Nat.le_of_ble_eq_true rfl) rfl rfl ?_
  refine J_iconst (pc := 2) (v := (1 : Int32)) dX0_blanksOn_2 (by decide) ?_
  refine J_istore (pc := 3) (ls' := [some (.ref 84), some (.ref 3), some (.int x2), some (.int (0 : Int32)), some (.int (1 : Int32))]) dX0_blanksOn_3 (Nat.le_of_ble_eq_true rfl) rfl rfl ?_
  refine tl_X0_blanksOn_84_3_5 hG hn (fun z6 I7 => ?_) fuel x2 (0 : Int32) (1 : Int32) I
  · refine J_iload_n (pc := 46) (x := z6) dX0_blanksOn_46 rfl ?_
    exact J_iret (pc := 47) dX0_blanksOn_47
abbrev mu_X8_sheet (G : Gt) : Mt (Int32 × Mem) := mi G cX8_sheet 4 yX8_sheet.cls (some .int) 3 70
def f_X8_sheet (x1 : Int32) (x2 : Int32) (I : Mem) : Option (Int32 × Mem) :=
  bI (f_X8_isSheet x1 I) fun r2 I1 => (if r2 = 0 then some ((-1 : Int32), I1) else ck (inb x1 100) <| (if x2 = (0 : Int32) then some ((I1 85 (tn x1)), I1) else (if x2 = (1 : Int32) then ck (inb x1 100) <| some ((I1 8 (tn x1)), I1) else (if x2 = (2 : Int32) then bI (f_X0_numberOf_84_3 x1 (1 : Int32) I1) fun r9 I8 => some (r9, I8) else (if x2 = (3 : Int32) then bI (f_X7_pagesOf (I1 85 (tn x1)) I1) fun r12 I11 => bI (f_X0_numberOf_84_3 x1 r12 I11) fun r14 I13 => some (r14, I13) else (if x2 = (4 : Int32) then bI (f_X0_blanksOn_84_3 x1 I1) fun r17 I16 => some (r17, I16) else some ((-1 : Int32), I1)))))))
set_option maxRecDepth 100000 in
theorem c_X8_sheet {G : Gt} (hG : Gok G) (hn : Gn G) (x1 : Int32) (x2 : Int32) (I : Mem) : Cti G yX8_sheet cX8_sheet 4 (some .int) 3 70 [.ref 0, .int x1, .int x2] I (f_X8_sheet x1 x2 I) := by
  refine Cti.of (ls := [some (.ref 0), some (.int x1), some (.int x2), none]) 1 hG (by decide) rfl (Nat.le_of_ble_eq_true rfl) ?_
  unfold f_X8_sheet
  refine J_aload_n (pc := 0) (x := 0) dX8_sheet_0 rfl ?_
  refine J_iload_n (pc := 1) (x := x1) dX8_sheet_1 rfl ?_
  refine J_callVi (pc := 2) (t := 8) (as := [.int x1]) (st := []) (c_X8_isSheet hG hn x1 I) (ok_c hn 0 (by decide) rfl) (by decide) rfl (cw_RX8_121 rfl) wd_264 wd_263 rfl ⟨Nat.le_of_ble_eq_true rfl, Nat.le_of_ble_eq_true rfl, Nat.le_of_ble_eq_true rfl, Nat.le_of_ble_eq_true rfl⟩ (Nat.le_of_ble_eq_true rfl) rfl dX8_sheet_2 (fun r2 I1 => ?_)
  refine J_if_ne (pc := 5) (tgt := 10) dX8_sheet_5 (by decide) ?_ ?_
  · refine J_iconst (pc := 8) (v := (-1 : Int32)) dX8_sheet_8 (by decide) ?_
    exact J_iret (pc := 9) dX8_sheet_9
  · refine J_aload_n (pc := 10) (x := 0) dX8_sheet_10 rfl ?_
    refine J_get (pc := 11) (t := 8) (k := 7) (.ref 84) (ok_c hn 0 (by decide) rfl) (by decide) rfl ingX8 (by decide) wd_191 rfl dX8_sheet_11 ?_
    refine J_get (pc := 14) (t := 0) (k := 2) (.ref 85) (ok_c hn 84 (by decide) rfl) (by decide) rfl ingX0 (by decide) wd_394 rfl dX8_sheet_14 ?_
    refine J_iload_n (pc := 17) (x := x1) dX8_sheet_17 rfl ?_
    refine J_ck (fun hc3 => ?_)
    refine J_ild (pc := 18) (t := 24) (k := (tn x1)) (ok_c hn 85 (by decide) rfl) iT_24 (inb_in hc3) rfl dX8_sheet_18 ?_
    refine J_istore_n (pc := 19) (ls' := [some (.ref 0), some (.int x1), some (.int x2), some (.int (I1 85 (tn x1)))]) dX8_sheet_19 (Nat.le_of_ble_eq_true rfl) rfl rfl ?_
    refine J_iload_n (pc := 20) (x := x2) dX8_sheet_20 rfl ?_
    refine J_ite (fun hq4 => ?_) (fun hq4 => ?_)
    · refine J_tblIn (pc := 21) (off := 35) (tgt := 56) dX8_sheet_21 (by rw [hq4]; decide) (by rw [hq4]; decide) (by rw [hq4]; decide) (by decide) ?_
      refine J_iload_n (pc := 56) (x := (I1 85 (tn x1))) dX8_sheet_56 rfl ?_
      exact J_iret (pc := 57) dX8_sheet_57
    refine J_ite (fun hq5 => ?_) (fun hq5 => ?_)
    · refine J_tblIn (pc := 21) (off := 37) (tgt := 58) dX8_sheet_21 (by rw [hq5]; decide) (by rw [hq5]; decide) (by rw [hq5]; decide) (by decide) ?_
      refine J_aload_n (pc := 58) (x := 0) dX8_sheet_58 rfl ?_
      refine J_get (pc := 59) (t := 8) (k := 1) (.ref 3) (ok_c hn 0 (by decide) rfl) (by decide) rfl ingX8 (by decide) wd_72 rfl dX8_sheet_59 ?_
      refine J_get (pc := 62) (t := 7) (k := 5) (.ref 8) (ok_c hn 3 (by decide) rfl) (by decide) rfl ingX7 (by decide) wd_267 rfl dX8_sheet_62 ?_
      refine J_iload_n (pc := 65) (x := x1) dX8_sheet_65 rfl ?_
      refine J_ck (fun hc6 => ?_)
      refine J_ild (pc := 66) (t := 15) (k := (tn x1)) (ok_c hn 8 (by decide) rfl) iT_15 (inb_in hc6) rfl dX8_sheet_66 ?_
      exact J_iret (pc := 67) dX8_sheet_67
    refine J_ite (fun hq7 => ?_) (fun hq7 => ?_)
    · refine J_tblIn (pc := 21) (off := 47) (tgt := 68) dX8_sheet_21 (by rw [hq7]; decide) (by rw [hq7]; decide) (by rw [hq7]; decide) (by decide) ?_
      refine J_aload_n (pc := 68) (x := 0) dX8_sheet_68 rfl ?_
      refine J_get (pc := 69) (t := 8) (k := 7) (.ref 84) (ok_c hn 0 (by decide) rfl) (by decide) rfl ingX8 (by decide) wd_191 rfl dX8_sheet_69 ?_
      refine J_aload_n (pc := 72) (x := 0) dX8_sheet_72 rfl ?_
      refine J_get (pc := 73) (t := 8) (k := 1) (.ref 3) (ok_c hn 0 (by decide) rfl) (by decide) rfl ingX8 (by decide) wd_72 rfl dX8_sheet_73 ?_
      refine J_iload_n (pc := 76) (x := x1) dX8_sheet_76 rfl ?_
      refine J_iconst (pc := 77) (v := (1 : Int32)) dX8_sheet_77 (by decide) ?_
      refine J_callVi (pc := 78) (t := 0) (as := [.ref 3, .int x1, .int (1 : Int32)]) (st := []) (c_X0_numberOf_84_3 hG hn x1 (1 : Int32) I1) (ok_c hn 84 (by decide) rfl) (by decide) rfl (cw_RX8_235 rfl) wd_209 wd_208 rfl ⟨Nat.le_of_ble_eq_true rfl, Nat.le_of_ble_eq_true rfl, Nat.le_of_ble_eq_true rfl, Nat.le_of_ble_eq_true rfl⟩ (Nat.le_of_ble_eq_true rfl) rfl dX8_sheet_78 (fun r9 I8 => ?_)
      exact J_iret (pc := 81) dX8_sheet_81
    refine J_ite (fun hq10 => ?_) (fun hq10 => ?_)
    · refine J_tblIn (pc := 21) (off := 61) (tgt := 82) dX8_sheet_21 (by rw [hq10]; decide) (by rw [hq10]; decide) (by rw [hq10]; decide) (by decide) ?_
      refine J_aload_n (pc := 82) (x := 0) dX8_sheet_82 rfl ?_
      refine J_get (pc := 83) (t := 8) (k := 7) (.ref 84) (ok_c hn 0 (by decide) rfl) (by decide) rfl ingX8 (by decide) wd_191 rfl dX8_sheet_83 ?_
      refine J_aload_n (pc := 86) (x := 0) dX8_sheet_86 rfl ?_
      refine J_get (pc := 87) (t := 8) (k := 1) (.ref 3) (ok_c hn 0 (by decide) rfl) (by decide) rfl ingX8 (by decide) wd_72 rfl dX8_sheet_87 ?_
      refine J_iload_n (pc := 90) (x := x1) dX8_sheet_90 rfl ?_
      refine J_aload_n (pc := 91) (x := 0) dX8_sheet_91 rfl ?_
      refine J_get (pc := 92) (t := 8) (k := 1) (.ref 3) (ok_c hn 0 (by decide) rfl) (by decide) rfl ingX8 (by decide) wd_72 rfl dX8_sheet_92 ?_
      refine J_iload_n (pc := 95) (x := (I1 85 (tn x1))) dX8_sheet_95 rfl ?_
      refine J_callVi (pc := 96) (t := 7) (as := [.int (I1 85 (tn x1))]) (st := [.int x1, .ref 3, .ref 84]) (c_X7_pagesOf hG hn (I1 85 (tn x1)) I1) (ok_c hn 3 (by decide) rfl) (by decide) rfl (cw_RX8_145 rfl) wd_197 wd_196 rfl ⟨Nat.le_of_ble_eq_true rfl, Nat.le_of_ble_eq_true rfl, Nat.le_of_ble_eq_true rfl, Nat.le_of_ble_eq_true rfl⟩ (Nat.le_of_ble_eq_true rfl) rfl dX8_sheet_96 (fun r12 I11 => ?_)
      refine J_callVi (pc := 99) (t := 0) (as := [.ref 3, .int x1, .int r12]) (st := []) (c_X0_numberOf_84_3 hG hn x1 r12 I11) (ok_c hn 84 (by decide) rfl) (by decide) rfl (cw_RX8_235 rfl) wd_209 wd_208 rfl ⟨Nat.le_of_ble_eq_true rfl, Nat.le_of_ble_eq_true rfl, Nat.le_of_ble_eq_true rfl, Nat.le_of_ble_eq_true rfl⟩ (Nat.le_of_ble_eq_true rfl) rfl dX8_sheet_99 (fun r14 I13 => ?_)
      exact J_iret (pc := 102) dX8_sheet_102
    refine J_ite (fun hq15 => ?_) (fun hq15 => ?_)
    · refine J_tblIn (pc := 21) (off := 82) (tgt := 103) dX8_sheet_21 (by rw [hq15]; decide) (by rw [hq15]; decide) (by rw [hq15]; decide) (by decide) ?_
      refine J_aload_n (pc := 103) (x := 0) dX8_sheet_103 rfl ?_
      refine J_get (pc := 104) (t := 8) (k := 7) (.ref 84) (ok_c hn 0 (by decide) rfl) (by decide) rfl ingX8 (by decide) wd_191 rfl dX8_sheet_104 ?_
      refine J_aload_n (pc := 107) (x := 0) dX8_sheet_107 rfl ?_
      refine J_get (pc := 108) (t := 8) (k := 1) (.ref 3) (ok_c hn 0 (by decide) rfl) (by decide) rfl ingX8 (by decide) wd_72 rfl dX8_sheet_108 ?_
      refine J_iload_n (pc := 111) (x := x1) dX8_sheet_111 rfl ?_
      refine J_callVi (pc := 112) (t := 0) (as := [.ref 3, .int x1]) (st := []) (c_X0_blanksOn_84_3 hG hn x1 I1) (ok_c hn 84 (by decide) rfl) (by decide) rfl (cw_RX8_238 rfl) wd_416 wd_415 rfl ⟨Nat.le_of_ble_eq_true rfl, Nat.le_of_ble_eq_true rfl, Nat.le_of_ble_eq_true rfl, Nat.le_of_ble_eq_true rfl⟩ (Nat.le_of_ble_eq_true rfl) rfl dX8_sheet_112 (fun r17 I16 => ?_)
      exact J_iret (pc := 115) dX8_sheet_115
    refine J_tblOut (pc := 21) (tgt := 116) dX8_sheet_21 (by have e0 := ne_int hq4 (show ((0 : Int32)).toInt = 0 by decide); have e1 := ne_int hq5 (show ((1 : Int32)).toInt = 1 by decide); have e2 := ne_int hq7 (show ((2 : Int32)).toInt = 2 by decide); have e3 := ne_int hq10 (show ((3 : Int32)).toInt = 3 by decide); have e4 := ne_int hq15 (show ((4 : Int32)).toInt = 4 by decide); omega) (by decide) ?_
    refine J_iconst (pc := 116) (v := (-1 : Int32)) dX8_sheet_116 (by decide) ?_
    exact J_iret (pc := 117) dX8_sheet_117
abbrev mu_X8_missingRuns (G : Gt) : Mt (Int32 × Mem) := mi G cX8_missingRuns 3 yX8_missingRuns.cls (some .int) 1 21
def b_X8_missingRuns_4 (K44 : Int32 → Mem → Option (Int32 × Mem)) (R : Int32 → Int32 → Mem → Option (Int32 × Mem)) (x1 : Int32) (x2 : Int32) (I : Mem) : Option (Int32 × Mem) :=
  (if (I 4 0) < x2 then K44 x1 I else bI (f_X8_isMissing x2 I) fun r2 I1 => (if r2 = 0 then R x1 (x2 + (1 : Int32)) I1 else bI (f_X8_isMissing (x2 - (1 : Int32)) I1) fun r4 I3 => (if r4 = 0 then R (x1 + (1 : Int32)) (x2 + (1 : Int32)) I3 else R x1 (x2 + (1 : Int32)) I3)))
def l_X8_missingRuns_4 (K44 : Int32 → Mem → Option (Int32 × Mem)) : Nat → Int32 → Int32 → Mem → Option (Int32 × Mem) := fx (b_X8_missingRuns_4 K44) (fun _ _ _ => none)
def f_X8_missingRuns (I : Mem) : Option (Int32 × Mem) :=
  l_X8_missingRuns_4 (fun (z5 : Int32) I6 => some (z5, I6)) fuel (0 : Int32) (1 : Int32) I
set_option maxRecDepth 100000 in
theorem tb_X8_missingRuns_4 {G : Gt} (hG : Gok G) (hn : Gn G) {K44 : Int32 → Mem → Option (Int32 × Mem)} (hK44 : ∀ (x1 : Int32) (I : Mem), J G (mu_X8_missingRuns G) 44 [none, some (.int x1), none] [] I (K44 x1 I)) {R : Int32 → Int32 → Mem → Option (Int32 × Mem)} (hR : ∀ (x1 : Int32) (x2 : Int32) (I : Mem), J G (mu_X8_missingRuns G) 4 [some (.ref 0), some (.int x1), some (.int x2)] [] I (R x1 x2 I)) (x1 : Int32) (x2 : Int32) (I : Mem) : J G (mu_X8_missingRuns G) 4 [some (.ref 0), some (.int x1), some (.int x2)] [] I (b_X8_missingRuns_4 K44 R x1 x2 I) := by
  unfold b_X8_missingRuns_4
  refine J_iload_n (pc := 4) (x := x2) dX8_missingRuns_4 rfl ?_
  refine J_aload_n (pc := 5) (x := 0) dX8_missingRuns_5 rfl ?_
  refine J_get (pc := 6) (t := 8) (k := 1) (.ref 3) (ok_c hn 0 (by decide) rfl) (by decide) rfl ingX8 (by decide) wd_72 rfl dX8_missingRuns_6 ?_
  refine J_get (pc := 9) (t := 7) (k := 1) (.ref 4) (ok_c hn 3 (by decide) rfl) (by decide) rfl ingX7 (by decide) wd_238 rfl dX8_missingRuns_9 ?_
  refine J_iconst (pc := 12) (v := (0 : Int32)) dX8_missingRuns_12 (by decide) ?_
  refine J_ild (pc := 13) (t := 11) (k := 0) (ok_c hn 4 (by decide) rfl) iT_11 (inb_in (by decide)) (by decide) dX8_missingRuns_13 ?_
  refine J_icmp_gt (pc := 14) (tgt := 44) dX8_missingRuns_14 (by decide) ?_ ?_
  · refine J_weak (ls' := [none, some (.int x1), none]) ⟨rfl, trivial⟩ ?_
    exact hK44 x1 I
  · refine J_aload_n (pc := 17) (x := 0) dX8_missingRuns_17 rfl ?_
    refine J_iload_n (pc := 18) (x := x2) dX8_missingRuns_18 rfl ?_
    refine J_callVi (pc := 19) (t := 8) (as := [.int x2]) (st := []) (c_X8_isMissing hG hn x2 I) (ok_c hn 0 (by decide) rfl) (by decide) rfl (cw_RX8_232 rfl) wd_411 wd_410 rfl ⟨Nat.le_of_ble_eq_true rfl, Nat.le_of_ble_eq_true rfl, Nat.le_of_ble_eq_true rfl, Nat.le_of_ble_eq_true rfl⟩ (Nat.le_of_ble_eq_true rfl) rfl dX8_missingRuns_19 (fun r2 I1 => ?_)
    refine J_if_eq (pc := 22) (tgt := 38) dX8_missingRuns_22 (by decide) ?_ ?_
    · refine J_iinc (pc := 38) (d := (1 : Int32)) (ls' := [some (.ref 0), some (.int x1), some (.int (x2 + (1 : Int32)))]) dX8_missingRuns_38 (by decide) rfl (Nat.le_of_ble_eq_true rfl) rfl rfl ?_
      refine J_goto (pc := 41) (tgt := 4) dX8_missingRuns_41 (by decide) ?_
      exact hR x1 (x2 + (1 : Int32)) I1
    · refine J_aload_n (pc := 25) (x := 0) dX8_missingRuns_25 rfl ?_
      refine J_iload_n (pc := 26) (x := x2) dX8_missingRuns_26 rfl ?_
      refine J_iconst (pc := 27) (v := (1 : Int32)) dX8_missingRuns_27 (by decide) ?_
      refine J_isub (pc := 28) dX8_missingRuns_28 ?_
      refine J_callVi (pc := 29) (t := 8) (as := [.int (x2 - (1 : Int32))]) (st := []) (c_X8_isMissing hG hn (x2 - (1 : Int32)) I1) (ok_c hn 0 (by decide) rfl) (by decide) rfl (cw_RX8_232 rfl) wd_411 wd_410 rfl ⟨Nat.le_of_ble_eq_true rfl, Nat.le_of_ble_eq_true rfl, Nat.le_of_ble_eq_true rfl, Nat.le_of_ble_eq_true rfl⟩ (Nat.le_of_ble_eq_true rfl) rfl dX8_missingRuns_29 (fun r4 I3 => ?_)
      refine J_if_ne (pc := 32) (tgt := 38) dX8_missingRuns_32 (by decide) ?_ ?_
      · refine J_iinc (pc := 35) (d := (1 : Int32)) (ls' := [some (.ref 0), some (.int (x1 + (1 : Int32))), some (.int x2)]) dX8_missingRuns_35 (by decide) rfl (Nat.le_of_ble_eq_true rfl) rfl rfl ?_
        refine J_iinc (pc := 38) (d := (1 : Int32)) (ls' := [some (.ref 0), some (.int (x1 + (1 : Int32))), some (.int (x2 + (1 : Int32)))]) dX8_missingRuns_38 (by decide) rfl (Nat.le_of_ble_eq_true rfl) rfl rfl ?_
        refine J_goto (pc := 41) (tgt := 4) dX8_missingRuns_41 (by decide) ?_
        exact hR (x1 + (1 : Int32)) (x2 + (1 : Int32)) I3
      · refine J_iinc (pc := 38) (d := (1 : Int32)) (ls' := [some (.ref 0), some (.int x1), some (.int (x2 + (1 : Int32)))]) dX8_missingRuns_38 (by decide) rfl (Nat.le_of_ble_eq_true rfl) rfl rfl ?_
        refine J_goto (pc := 41) (tgt := 4) dX8_missingRuns_41 (by decide) ?_
        exact hR x1 (x2 + (1 : Int32)) I3
theorem tl_X8_missingRuns_4 {G : Gt} (hG : Gok G) (hn : Gn G) {K44 : Int32 → Mem → Option (Int32 × Mem)} (hK44 : ∀ (x1 : Int32) (I : Mem), J G (mu_X8_missingRuns G) 44 [none, some (.int x1), none] [] I (K44 x1 I)) (n : Nat) : ∀ (x1 : Int32) (x2 : Int32) (I : Mem), J G (mu_X8_missingRuns G) 4 [some (.ref 0), some (.int x1), some (.int x2)] [] I (l_X8_missingRuns_4 K44 n x1 x2 I) := by
  induction n with
  | zero => intro x1 x2 I; exact J_none
  | succ n ih => intro x1 x2 I; exact tb_X8_missingRuns_4 hG hn hK44 ih x1 x2 I
set_option maxRecDepth 100000 in
theorem c_X8_missingRuns {G : Gt} (hG : Gok G) (hn : Gn G) (I : Mem) : Cti G yX8_missingRuns cX8_missingRuns 3 (some .int) 1 21 [.ref 0] I (f_X8_missingRuns I) := by
  refine Cti.of (ls := [some (.ref 0), none, none]) 2 hG (by decide) rfl (Nat.le_of_ble_eq_true rfl) ?_
  unfold f_X8_missingRuns
  refine J_iconst (pc := 0) (v := (0 : Int32)) dX8_missingRuns_0 (by decide) ?_
  refine J_istore_n (pc := 1) (ls' := [some (.ref 0), some (.int (0 : Int32)), none]) dX8_missingRuns_1 (Nat.le_of_ble_eq_true rfl) rfl rfl ?_
  refine J_iconst (pc := 2) (v := (1 : Int32)) dX8_missingRuns_2 (by decide) ?_
  refine J_istore_n (pc := 3) (ls' := [some (.ref 0), some (.int (0 : Int32)), some (.int (1 : Int32))]) dX8_missingRuns_3 (Nat.le_of_ble_eq_true rfl) rfl rfl ?_
  refine tl_X8_missingRuns_4 hG hn (fun z5 I6 => ?_) fuel (0 : Int32) (1 : Int32) I
  · refine J_iload_n (pc := 44) (x := z5) dX8_missingRuns_44 rfl ?_
    exact J_iret (pc := 45) dX8_missingRuns_45
abbrev mu_X8_missing (G : Gt) : Mt (Int32 × Mem) := mi G cX8_missing 4 yX8_missing.cls (some .int) 2 43
def b_X8_missing_23 (K49 : Int32 → Mem → Option (Int32 × Mem)) (K60 : Int32 → Int32 → Mem → Option (Int32 × Mem)) (R : Int32 → Int32 → Int32 → Mem → Option (Int32 × Mem)) (x1 : Int32) (x2 : Int32) (x3 : Int32) (I : Mem) : Option (Int32 × Mem) :=
  (if (I 4 0) < x3 then K60 x1 x2 I else bI (f_X8_isMissing x3 I) fun r4 I3 => (if r4 = 0 then R x1 x2 (x3 + (1 : Int32)) I3 else (if x2 = x1 then K49 x3 I3 else R x1 (x2 + (1 : Int32)) (x3 + (1 : Int32)) I3)))
def l_X8_missing_23 (K49 : Int32 → Mem → Option (Int32 × Mem)) (K60 : Int32 → Int32 → Mem → Option (Int32 × Mem)) : Nat → Int32 → Int32 → Int32 → Mem → Option (Int32 × Mem) := fx (b_X8_missing_23 K49 K60) (fun _ _ _ _ => none)
def f_X8_missing (x1 : Int32) (I : Mem) : Option (Int32 × Mem) :=
  (if (-2 : Int32) ≤ x1 then (if x1 = (-2 : Int32) then bI (f_X8_missingRuns I) fun r2 I1 => some (r2, I1) else l_X8_missing_23 (fun (z5 : Int32) I6 => some (z5, I6)) (fun (z7 : Int32) (z8 : Int32) I9 => (if z7 = (-1 : Int32) then some (z8, I9) else some ((-4 : Int32), I9))) fuel x1 (0 : Int32) (1 : Int32) I) else some ((-1 : Int32), I))
set_option maxRecDepth 100000 in
theorem tb_X8_missing_23 {G : Gt} (hG : Gok G) (hn : Gn G) {K49 : Int32 → Mem → Option (Int32 × Mem)} (hK49 : ∀ (x3 : Int32) (I : Mem), J G (mu_X8_missing G) 49 [none, none, none, some (.int x3)] [] I (K49 x3 I)) {K60 : Int32 → Int32 → Mem → Option (Int32 × Mem)} (hK60 : ∀ (x1 : Int32) (x2 : Int32) (I : Mem), J G (mu_X8_missing G) 60 [none, some (.int x1), some (.int x2), none] [] I (K60 x1 x2 I)) {R : Int32 → Int32 → Int32 → Mem → Option (Int32 × Mem)} (hR : ∀ (x1 : Int32) (x2 : Int32) (x3 : Int32) (I : Mem), J G (mu_X8_missing G) 23 [some (.ref 0), some (.int x1), some (.int x2), some (.int x3)] [] I (R x1 x2 x3 I)) (x1 : Int32) (x2 : Int32) (x3 : Int32) (I : Mem) : J G (mu_X8_missing G) 23 [some (.ref 0), some (.int x1), some (.int x2), some (.int x3)] [] I (b_X8_missing_23 K49 K60 R x1 x2 x3 I) := by
  unfold b_X8_missing_23
  refine J_iload_n (pc := 23) (x := x3) dX8_missing_23 rfl ?_
  refine J_aload_n (pc := 24) (x := 0) dX8_missing_24 rfl ?_
  refine J_get (pc := 25) (t := 8) (k := 1) (.ref 3) (ok_c hn 0 (by decide) rfl) (by decide) rfl ingX8 (by decide) wd_72 rfl dX8_missing_25 ?_
  refine J_get (pc := 28) (t := 7) (k := 1) (.ref 4) (ok_c hn 3 (by decide) rfl) (by decide) rfl ingX7 (by decide) wd_238 rfl dX8_missing_28 ?_
  refine J_iconst (pc := 31) (v := (0 : Int32)) dX8_missing_31 (by decide) ?_
  refine J_ild (pc := 32) (t := 11) (k := 0) (ok_c hn 4 (by decide) rfl) iT_11 (inb_in (by decide)) (by decide) dX8_missing_32 ?_
  refine J_icmp_gt (pc := 33) (tgt := 60) dX8_missing_33 (by decide) ?_ ?_
  · refine J_weak (ls' := [none, some (.int x1), some (.int x2), none]) ⟨rfl, rfl, trivial⟩ ?_
    exact hK60 x1 x2 I
  · refine J_aload_n (pc := 36) (x := 0) dX8_missing_36 rfl ?_
    refine J_iload_n (pc := 37) (x := x3) dX8_missing_37 rfl ?_
    refine J_callVi (pc := 38) (t := 8) (as := [.int x3]) (st := []) (c_X8_isMissing hG hn x3 I) (ok_c hn 0 (by decide) rfl) (by decide) rfl (cw_RX8_232 rfl) wd_411 wd_410 rfl ⟨Nat.le_of_ble_eq_true rfl, Nat.le_of_ble_eq_true rfl, Nat.le_of_ble_eq_true rfl, Nat.le_of_ble_eq_true rfl⟩ (Nat.le_of_ble_eq_true rfl) rfl dX8_missing_38 (fun r4 I3 => ?_)
    refine J_if_eq (pc := 41) (tgt := 54) dX8_missing_41 (by decide) ?_ ?_
    · refine J_iinc (pc := 54) (d := (1 : Int32)) (ls' := [some (.ref 0), some (.int x1), some (.int x2), some (.int (x3 + (1 : Int32)))]) dX8_missing_54 (by decide) rfl (Nat.le_of_ble_eq_true rfl) rfl rfl ?_
      refine J_goto (pc := 57) (tgt := 23) dX8_missing_57 (by decide) ?_
      exact hR x1 x2 (x3 + (1 : Int32)) I3
    · refine J_iload_n (pc := 44) (x := x2) dX8_missing_44 rfl ?_
      refine J_iload_n (pc := 45) (x := x1) dX8_missing_45 rfl ?_
      refine J_icmp_ne (pc := 46) (tgt := 51) dX8_missing_46 (by decide) ?_ ?_
      · refine J_weak (ls' := [none, none, none, some (.int x3)]) ⟨rfl, trivial⟩ ?_
        exact hK49 x3 I3
      · refine J_iinc (pc := 51) (d := (1 : Int32)) (ls' := [some (.ref 0), some (.int x1), some (.int (x2 + (1 : Int32))), some (.int x3)]) dX8_missing_51 (by decide) rfl (Nat.le_of_ble_eq_true rfl) rfl rfl ?_
        refine J_iinc (pc := 54) (d := (1 : Int32)) (ls' := [some (.ref 0), some (.int x1), some (.int (x2 + (1 : Int32))), some (.int (x3 + (1 : Int32)))]) dX8_missing_54 (by decide) rfl (Nat.le_of_ble_eq_true rfl) rfl rfl ?_
        refine J_goto (pc := 57) (tgt := 23) dX8_missing_57 (by decide) ?_
        exact hR x1 (x2 + (1 : Int32)) (x3 + (1 : Int32)) I3
theorem tl_X8_missing_23 {G : Gt} (hG : Gok G) (hn : Gn G) {K49 : Int32 → Mem → Option (Int32 × Mem)} (hK49 : ∀ (x3 : Int32) (I : Mem), J G (mu_X8_missing G) 49 [none, none, none, some (.int x3)] [] I (K49 x3 I)) {K60 : Int32 → Int32 → Mem → Option (Int32 × Mem)} (hK60 : ∀ (x1 : Int32) (x2 : Int32) (I : Mem), J G (mu_X8_missing G) 60 [none, some (.int x1), some (.int x2), none] [] I (K60 x1 x2 I)) (n : Nat) : ∀ (x1 : Int32) (x2 : Int32) (x3 : Int32) (I : Mem), J G (mu_X8_missing G) 23 [some (.ref 0), some (.int x1), some (.int x2), some (.int x3)] [] I (l_X8_missing_23 K49 K60 n x1 x2 x3 I) := by
  induction n with
  | zero => intro x1 x2 x3 I; exact J_none
  | succ n ih => intro x1 x2 x3 I; exact tb_X8_missing_23 hG hn hK49 hK60 ih x1 x2 x3 I
set_option maxRecDepth 100000 in
theorem c_X8_missing {G : Gt} (hG : Gok G) (hn : Gn G) (x1 : Int32) (I : Mem) : Cti G yX8_missing cX8_missing 4 (some .int) 2 43 [.ref 0, .int x1] I (f_X8_missing x1 I) := by
  refine Cti.of (ls := [some (.ref 0), some (.int x1), none, none]) 2 hG (by decide) rfl (Nat.le_of_ble_eq_true rfl) ?_
  unfold f_X8_missing
  refine J_iload_n (pc := 0) (x := x1) dX8_missing_0 rfl ?_
  refine J_bipush (pc := 1) (v := (-2 : Int32)) dX8_missing_1 (by decide) ?_
  refine J_icmp_ge (pc := 3) (tgt := 8) dX8_missing_3 (by decide) ?_ ?_
  · refine J_iload_n (pc := 8) (x := x1) dX8_missing_8 rfl ?_
    refine J_bipush (pc := 9) (v := (-2 : Int32)) dX8_missing_9 (by decide) ?_
    refine J_icmp_ne (pc := 11) (tgt := 19) dX8_missing_11 (by decide) ?_ ?_
    · refine J_aload_n (pc := 14) (x := 0) dX8_missing_14 rfl ?_
      refine J_callVi (pc := 15) (t := 8) (as := []) (st := []) (c_X8_missingRuns hG hn I) (ok_c hn 0 (by decide) rfl) (by decide) rfl (cw_RX8_242 rfl) wd_420 wd_419 rfl ⟨Nat.le_of_ble_eq_true rfl, Nat.le_of_ble_eq_true rfl, Nat.le_of_ble_eq_true rfl, Nat.le_of_ble_eq_true rfl⟩ (Nat.le_of_ble_eq_true rfl) rfl dX8_missing_15 (fun r2 I1 => ?_)
      exact J_iret (pc := 18) dX8_missing_18
    · refine J_iconst (pc := 19) (v := (0 : Int32)) dX8_missing_19 (by decide) ?_
      refine J_istore_n (pc := 20) (ls' := [some (.ref 0), some (.int x1), some (.int (0 : Int32)), none]) dX8_missing_20 (Nat.le_of_ble_eq_true rfl) rfl rfl ?_
      refine J_iconst (pc := 21) (v := (1 : Int32)) dX8_missing_21 (by decide) ?_
      refine J_istore_n (pc := 22) (ls' := [some (.ref 0), some (.int x1), some (.int (0 : Int32)), some (.int (1 : Int32))]) dX8_missing_22 (Nat.le_of_ble_eq_true rfl) rfl rfl ?_
      refine tl_X8_missing_23 hG hn (fun z5 I6 => ?_) (fun z7 z8 I9 => ?_) fuel x1 (0 : Int32) (1 : Int32) I
      · refine J_iload_n (pc := 49) (x := z5) dX8_missing_49 rfl ?_
        exact J_iret (pc := 50) dX8_missing_50
      · refine J_iload_n (pc := 60) (x := z7) dX8_missing_60 rfl ?_
        refine J_iconst (pc := 61) (v := (-1 : Int32)) dX8_missing_61 (by decide) ?_
        refine J_icmp_ne (pc := 62) (tgt := 69) dX8_missing_62 (by decide) ?_ ?_
        · refine J_iload_n (pc := 65) (x := z8) dX8_missing_65 rfl ?_
          refine J_goto (pc := 66) (tgt := 71) dX8_missing_66 (by decide) ?_
          exact J_iret (pc := 71) dX8_missing_71
        · refine J_bipush (pc := 69) (v := (-4 : Int32)) dX8_missing_69 (by decide) ?_
          exact J_iret (pc := 71) dX8_missing_71
  · refine J_iconst (pc := 6) (v := (-1 : Int32)) dX8_missing_6 (by decide) ?_
    exact J_iret (pc := 7) dX8_missing_7
abbrev mu_X8_count (G : Gt) : Mt (Int32 × Mem) := mi G cX8_count 2 yX8_count.cls (some .int) 1 22
def f_X8_count (x1 : Int32) (I : Mem) : Option (Int32 × Mem) :=
  (if x1 = (0 : Int32) then some ((I 3 0), I) else (if x1 = (1 : Int32) then some ((I 4 0), I) else (if x1 = (2 : Int32) then some ((I 4 1), I) else (if x1 = (3 : Int32) then some ((I 4 2), I) else (if x1 = (4 : Int32) then bI (f_X7_spoiledSheets I) fun r7 I6 => some (r7, I6) else (if x1 = (5 : Int32) then some ((I 15 1), I) else (if x1 = (6 : Int32) then some ((I 1 1), I) else some ((-1 : Int32), I))))))))
set_option maxRecDepth 100000 in
theorem c_X8_count {G : Gt} (hG : Gok G) (hn : Gn G) (x1 : Int32) (I : Mem) : Cti G yX8_count cX8_count 2 (some .int) 1 22 [.ref 0, .int x1] I (f_X8_count x1 I) := by
  refine Cti.of (ls := [some (.ref 0), some (.int x1)]) 0 hG (by decide) rfl (Nat.le_of_ble_eq_true rfl) ?_
  unfold f_X8_count
  refine J_iload_n (pc := 0) (x := x1) dX8_count_0 rfl ?_
  refine J_ite (fun hq1 => ?_) (fun hq1 => ?_)
  · refine J_tblIn (pc := 1) (off := 43) (tgt := 44) dX8_count_1 (by rw [hq1]; decide) (by rw [hq1]; decide) (by rw [hq1]; decide) (by decide) ?_
    refine J_aload_n (pc := 44) (x := 0) dX8_count_44 rfl ?_
    refine J_get (pc := 45) (t := 8) (k := 1) (.ref 3) (ok_c hn 0 (by decide) rfl) (by decide) rfl ingX8 (by decide) wd_72 rfl dX8_count_45 ?_
    refine J_get (pc := 48) (t := 7) (k := 0) (.int (I 3 0)) (ok_c hn 3 (by decide) rfl) (by decide) rfl ingX7 (by decide) wd_71 rfl dX8_count_48 ?_
    exact J_iret (pc := 51) dX8_count_51
  refine J_ite (fun hq2 => ?_) (fun hq2 => ?_)
  · refine J_tblIn (pc := 1) (off := 51) (tgt := 52) dX8_count_1 (by rw [hq2]; decide) (by rw [hq2]; decide) (by rw [hq2]; decide) (by decide) ?_
    refine J_aload_n (pc := 52) (x := 0) dX8_count_52 rfl ?_
    refine J_get (pc := 53) (t := 8) (k := 1) (.ref 3) (ok_c hn 0 (by decide) rfl) (by decide) rfl ingX8 (by decide) wd_72 rfl dX8_count_53 ?_
    refine J_get (pc := 56) (t := 7) (k := 1) (.ref 4) (ok_c hn 3 (by decide) rfl) (by decide) rfl ingX7 (by decide) wd_238 rfl dX8_count_56 ?_
    refine J_iconst (pc := 59) (v := (0 : Int32)) dX8_count_59 (by decide) ?_
    refine J_ild (pc := 60) (t := 11) (k := 0) (ok_c hn 4 (by decide) rfl) iT_11 (inb_in (by decide)) (by decide) dX8_count_60 ?_
    exact J_iret (pc := 61) dX8_count_61
  refine J_ite (fun hq3 => ?_) (fun hq3 => ?_)
  · refine J_tblIn (pc := 1) (off := 61) (tgt := 62) dX8_count_1 (by rw [hq3]; decide) (by rw [hq3]; decide) (by rw [hq3]; decide) (by decide) ?_
    refine J_aload_n (pc := 62) (x := 0) dX8_count_62 rfl ?_
    refine J_get (pc := 63) (t := 8) (k := 1) (.ref 3) (ok_c hn 0 (by decide) rfl) (by decide) rfl ingX8 (by decide) wd_72 rfl dX8_count_63 ?_
    refine J_get (pc := 66) (t := 7) (k := 1) (.ref 4) (ok_c hn 3 (by decide) rfl) (by decide) rfl ingX7 (by decide) wd_238 rfl dX8_count_66 ?_
    refine J_iconst (pc := 69) (v := (1 : Int32)) dX8_count_69 (by decide) ?_
    refine J_ild (pc := 70) (t := 11) (k := 1) (ok_c hn 4 (by decide) rfl) iT_11 (inb_in (by decide)) (by decide) dX8_count_70 ?_
    exact J_iret (pc := 71) dX8_count_71
  refine J_ite (fun hq4 => ?_) (fun hq4 => ?_)
  · refine J_tblIn (pc := 1) (off := 71) (tgt := 72) dX8_count_1 (by rw [hq4]; decide) (by rw [hq4]; decide) (by rw [hq4]; decide) (by decide) ?_
    refine J_aload_n (pc := 72) (x := 0) dX8_count_72 rfl ?_
    refine J_get (pc := 73) (t := 8) (k := 1) (.ref 3) (ok_c hn 0 (by decide) rfl) (by decide) rfl ingX8 (by decide) wd_72 rfl dX8_count_73 ?_
    refine J_get (pc := 76) (t := 7) (k := 1) (.ref 4) (ok_c hn 3 (by decide) rfl) (by decide) rfl ingX7 (by decide) wd_238 rfl dX8_count_76 ?_
    refine J_iconst (pc := 79) (v := (2 : Int32)) dX8_count_79 (by decide) ?_
    refine J_ild (pc := 80) (t := 11) (k := 2) (ok_c hn 4 (by decide) rfl) iT_11 (inb_in (by decide)) (by decide) dX8_count_80 ?_
    exact J_iret (pc := 81) dX8_count_81
  refine J_ite (fun hq5 => ?_) (fun hq5 => ?_)
  · refine J_tblIn (pc := 1) (off := 81) (tgt := 82) dX8_count_1 (by rw [hq5]; decide) (by rw [hq5]; decide) (by rw [hq5]; decide) (by decide) ?_
    refine J_aload_n (pc := 82) (x := 0) dX8_count_82 rfl ?_
    refine J_get (pc := 83) (t := 8) (k := 1) (.ref 3) (ok_c hn 0 (by decide) rfl) (by decide) rfl ingX8 (by decide) wd_72 rfl dX8_count_83 ?_
    refine J_callVi (pc := 86) (t := 7) (as := []) (st := []) (c_X7_spoiledSheets hG hn I) (ok_c hn 3 (by decide) rfl) (by decide) rfl (cw_RX8_127 rfl) wd_269 wd_268 rfl ⟨Nat.le_of_ble_eq_true rfl, Nat.le_of_ble_eq_true rfl, Nat.le_of_ble_eq_true rfl, Nat.le_of_ble_eq_true rfl⟩ (Nat.le_of_ble_eq_true rfl) rfl dX8_count_86 (fun r7 I6 => ?_)
    exact J_iret (pc := 89) dX8_count_89
  refine J_ite (fun hq8 => ?_) (fun hq8 => ?_)
  · refine J_tblIn (pc := 1) (off := 89) (tgt := 90) dX8_count_1 (by rw [hq8]; decide) (by rw [hq8]; decide) (by rw [hq8]; decide) (by decide) ?_
    refine J_aload_n (pc := 90) (x := 0) dX8_count_90 rfl ?_
    refine J_get (pc := 91) (t := 8) (k := 3) (.ref 15) (ok_c hn 0 (by decide) rfl) (by decide) rfl ingX8 (by decide) wd_80 rfl dX8_count_91 ?_
    refine J_get (pc := 94) (t := 1) (k := 1) (.int (I 15 1)) (ok_c hn 15 (by decide) rfl) (by decide) rfl ingX1 (by decide) wd_81 rfl dX8_count_94 ?_
    exact J_iret (pc := 97) dX8_count_97
  refine J_ite (fun hq9 => ?_) (fun hq9 => ?_)
  · refine J_tblIn (pc := 1) (off := 97) (tgt := 98) dX8_count_1 (by rw [hq9]; decide) (by rw [hq9]; decide) (by rw [hq9]; decide) (by decide) ?_
    refine J_aload_n (pc := 98) (x := 0) dX8_count_98 rfl ?_
    refine J_get (pc := 99) (t := 8) (k := 0) (.ref 1) (ok_c hn 0 (by decide) rfl) (by decide) rfl ingX8 (by decide) wd_0 rfl dX8_count_99 ?_
    refine J_get (pc := 102) (t := 6) (k := 1) (.int (I 1 1)) (ok_c hn 1 (by decide) rfl) (by decide) rfl ingX6 (by decide) wd_227 rfl dX8_count_102 ?_
    exact J_iret (pc := 105) dX8_count_105
  refine J_tblOut (pc := 1) (tgt := 106) dX8_count_1 (by have e0 := ne_int hq1 (show ((0 : Int32)).toInt = 0 by decide); have e1 := ne_int hq2 (show ((1 : Int32)).toInt = 1 by decide); have e2 := ne_int hq3 (show ((2 : Int32)).toInt = 2 by decide); have e3 := ne_int hq4 (show ((3 : Int32)).toInt = 3 by decide); have e4 := ne_int hq5 (show ((4 : Int32)).toInt = 4 by decide); have e5 := ne_int hq8 (show ((5 : Int32)).toInt = 5 by decide); have e6 := ne_int hq9 (show ((6 : Int32)).toInt = 6 by decide); omega) (by decide) ?_
  refine J_iconst (pc := 106) (v := (-1 : Int32)) dX8_count_106 (by decide) ?_
  exact J_iret (pc := 107) dX8_count_107
abbrev mu_X9_in (G : Gt) : Mt (Int32 × Mem) := mi G cX9_in 6 yX9_in.cls (some .boolean) 0 0
def f_X9_in (x0 : Int64) (x2 : Int64) (x4 : Int64) (I : Mem) : Option (Int32 × Mem) :=
  (if (lg_cmp x0 x2) < 0 then some ((0 : Int32), I) else (if 0 < (lg_cmp x0 x4) then some ((0 : Int32), I) else some ((1 : Int32), I)))
set_option maxRecDepth 100000 in
theorem c_X9_in {G : Gt} (hG : Gok G) (hn : gn G = 104) (x0 : Int64) (x2 : Int64) (x4 : Int64) (I : Mem) : Cti G yX9_in cX9_in 6 (some .boolean) 0 0 [.long x0, .long x2, .long x4] I (f_X9_in x0 x2 x4 I) := by
  refine Cti.of (ls := [some (.long x0), none, some (.long x2), none, some (.long x4), none]) 0 hG (by decide) rfl (Nat.le_of_ble_eq_true rfl) ?_
  unfold f_X9_in
  refine J_lload_n (pc := 0) (x := x0) dX9_in_0 rfl ?_
  refine J_lload_n (pc := 1) (x := x2) dX9_in_1 rfl ?_
  refine J_lcmp (pc := 2) dX9_in_2 ?_
  refine J_if_lt (pc := 3) (tgt := 17) dX9_in_3 (by decide) ?_ ?_
  · refine J_iconst (pc := 17) (v := (0 : Int32)) dX9_in_17 (by decide) ?_
    exact J_zret (pc := 18) rfl dX9_in_18
  · refine J_lload_n (pc := 6) (x := x0) dX9_in_6 rfl ?_
    refine J_lload (pc := 7) (x := x4) dX9_in_7 rfl ?_
    refine J_lcmp (pc := 9) dX9_in_9 ?_
    refine J_if_gt (pc := 10) (tgt := 17) dX9_in_10 (by decide) ?_ ?_
    · refine J_iconst (pc := 17) (v := (0 : Int32)) dX9_in_17 (by decide) ?_
      exact J_zret (pc := 18) rfl dX9_in_18
    · refine J_iconst (pc := 13) (v := (1 : Int32)) dX9_in_13 (by decide) ?_
      refine J_goto (pc := 14) (tgt := 18) dX9_in_14 (by decide) ?_
      exact J_zret (pc := 18) rfl dX9_in_18
abbrev mu_X9_write (G : Gt) : Mt (Int32 × Mem) := mi G cX9_write 2 yX9_write.cls (some .int) 1 25
def f_X9_write (x1 : Int32) (I : Mem) : Option (Int32 × Mem) :=
  bI (f_X9_in ((x1).toInt64) (32 : Int64) (126 : Int64) I) fun r2 I1 => (if r2 = 0 then some ((-1 : Int32), I1) else (if (I1 89 0) = (200 : Int32) then some ((-3 : Int32), I1) else ck (inb (I1 89 0) 200) <| some (((stm (stm I1 90 (tn (I1 89 0)) x1) 89 0 (((stm I1 90 (tn (I1 89 0)) x1) 89 0) + (1 : Int32))) 89 0), (stm (stm I1 90 (tn (I1 89 0)) x1) 89 0 (((stm I1 90 (tn (I1 89 0)) x1) 89 0) + (1 : Int32))))))
set_option maxRecDepth 100000 in
theorem c_X9_write {G : Gt} (hG : Gok G) (hn : gn G = 104) (x1 : Int32) (I : Mem) : Cti G yX9_write cX9_write 2 (some .int) 1 25 [.ref 89, .int x1] I (f_X9_write x1 I) := by
  refine Cti.of (ls := [some (.ref 89), some (.int x1)]) 0 hG (by decide) rfl (Nat.le_of_ble_eq_true rfl) ?_
  unfold f_X9_write
  refine J_iload_n (pc := 0) (x := x1) dX9_write_0 rfl ?_
  refine J_i2l (pc := 1) dX9_write_1 ?_
  refine J_ldc2 (pc := 2) (v := (32 : Int64)) wd_423 dX9_write_2 ?_
  refine J_ldc2 (pc := 5) (v := (126 : Int64)) wd_424 dX9_write_5 ?_
  refine J_callSi (pc := 8) (as := [.long ((x1).toInt64), .long (32 : Int64), .long (126 : Int64)]) (st := []) (c_X9_in hG hn ((x1).toInt64) (32 : Int64) (126 : Int64) I) (cw_RX9_57 rfl) wd_425 rfl ⟨Nat.le_of_ble_eq_true rfl, Nat.le_of_ble_eq_true rfl, Nat.le_of_ble_eq_true rfl, Nat.le_of_ble_eq_true rfl⟩ (Nat.le_of_ble_eq_true rfl) rfl dX9_write_8 (fun r2 I1 => ?_)
  refine J_if_ne (pc := 11) (tgt := 16) dX9_write_11 (by decide) ?_ ?_
  · refine J_iconst (pc := 14) (v := (-1 : Int32)) dX9_write_14 (by decide) ?_
    exact J_iret (pc := 15) dX9_write_15
  · refine J_aload_n (pc := 16) (x := 89) dX9_write_16 rfl ?_
    refine J_get (pc := 17) (t := 9) (k := 0) (.int (I1 89 0)) (ok_m hn 89 (by decide) rfl) (by decide) rfl ingX9 (by decide) wd_429 rfl dX9_write_17 ?_
    refine J_sipush (pc := 20) (v := (200 : Int32)) dX9_write_20 (by decide) ?_
    refine J_icmp_ne (pc := 23) (tgt := 29) dX9_write_23 (by decide) ?_ ?_
    · refine J_bipush (pc := 26) (v := (-3 : Int32)) dX9_write_26 (by decide) ?_
      exact J_iret (pc := 28) dX9_write_28
    · refine J_aload_n (pc := 29) (x := 89) dX9_write_29 rfl ?_
      refine J_get (pc := 30) (t := 9) (k := 1) (.ref 90) (ok_m hn 89 (by decide) rfl) (by decide) rfl ingX9 (by decide) wd_430 rfl dX9_write_30 ?_
      refine J_aload_n (pc := 33) (x := 89) dX9_write_33 rfl ?_
      refine J_get (pc := 34) (t := 9) (k := 0) (.int (I1 89 0)) (ok_m hn 89 (by decide) rfl) (by decide) rfl ingX9 (by decide) wd_429 rfl dX9_write_34 ?_
      refine J_iload_n (pc := 37) (x := x1) dX9_write_37 rfl ?_
      refine J_ck (fun hc3 => ?_)
      refine J_ist (pc := 38) (t := 30) (k := (tn (I1 89 0))) (ok_m hn 90 (by decide) rfl) iT_30 (inb_in hc3) rfl dX9_write_38 ?_
      refine J_aload_n (pc := 39) (x := 89) dX9_write_39 rfl ?_
      refine J_dupR (pc := 40) dX9_write_40 ?_
      refine J_get (pc := 41) (t := 9) (k := 0) (.int ((stm I1 90 (tn (I1 89 0)) x1) 89 0)) (ok_m hn 89 (by decide) rfl) (by decide) rfl ingX9 (by decide) wd_429 rfl dX9_write_41 ?_
      refine J_iconst (pc := 44) (v := (1 : Int32)) dX9_write_44 (by decide) ?_
      refine J_iadd (pc := 45) dX9_write_45 ?_
      refine J_put (pc := 46) (t := 9) (k := 0) (ok_m hn 89 (by decide) rfl) (by decide) rfl ingX9 tyX9 tyX9_ok nmX9 (by decide) wd_429 rfl pfI (Nat.le_of_ble_eq_true rfl) rfl dX9_write_46 ?_
      refine J_aload_n (pc := 49) (x := 89) dX9_write_49 rfl ?_
      refine J_get (pc := 50) (t := 9) (k := 0) (.int ((stm (stm I1 90 (tn (I1 89 0)) x1) 89 0 (((stm I1 90 (tn (I1 89 0)) x1) 89 0) + (1 : Int32))) 89 0)) (ok_m hn 89 (by decide) rfl) (by decide) rfl ingX9 (by decide) wd_429 rfl dX9_write_50 ?_
      exact J_iret (pc := 53) dX9_write_53
abbrev mu_X9_wipe (G : Gt) : Mt (Int32 × Mem) := mi G cX9_wipe 2 yX9_wipe.cls (some .int) 0 0
def f_X9_wipe (I : Mem) : Option (Int32 × Mem) :=
  some ((I 89 0), (stm I 89 0 (0 : Int32)))
set_option maxRecDepth 100000 in
theorem c_X9_wipe {G : Gt} (hG : Gok G) (hn : gn G = 104) (I : Mem) : Cti G yX9_wipe cX9_wipe 2 (some .int) 0 0 [.ref 89] I (f_X9_wipe I) := by
  refine Cti.of (ls := [some (.ref 89), none]) 1 hG (by decide) rfl (Nat.le_of_ble_eq_true rfl) ?_
  unfold f_X9_wipe
  refine J_aload_n (pc := 0) (x := 89) dX9_wipe_0 rfl ?_
  refine J_get (pc := 1) (t := 9) (k := 0) (.int (I 89 0)) (ok_m hn 89 (by decide) rfl) (by decide) rfl ingX9 (by decide) wd_429 rfl dX9_wipe_1 ?_
  refine J_istore_n (pc := 4) (ls' := [some (.ref 89), some (.int (I 89 0))]) dX9_wipe_4 (Nat.le_of_ble_eq_true rfl) rfl rfl ?_
  refine J_aload_n (pc := 5) (x := 89) dX9_wipe_5 rfl ?_
  refine J_iconst (pc := 6) (v := (0 : Int32)) dX9_wipe_6 (by decide) ?_
  refine J_put (pc := 7) (t := 9) (k := 0) (ok_m hn 89 (by decide) rfl) (by decide) rfl ingX9 tyX9 tyX9_ok nmX9 (by decide) wd_429 rfl pfI (Nat.le_of_ble_eq_true rfl) rfl dX9_wipe_7 ?_
  refine J_iload_n (pc := 10) (x := (I 89 0)) dX9_wipe_10 rfl ?_
  exact J_iret (pc := 11) dX9_wipe_11
abbrev mu_X9_byteAt (G : Gt) : Mt (Int32 × Mem) := mi G cX9_byteAt 2 yX9_byteAt.cls (some .int) 0 0
def f_X9_byteAt (x1 : Int32) (I : Mem) : Option (Int32 × Mem) :=
  (if (I 89 0) ≤ x1 then some ((0 : Int32), I) else ck (inb x1 200) <| some ((I 90 (tn x1)), I))
set_option maxRecDepth 100000 in
theorem c_X9_byteAt {G : Gt} (hG : Gok G) (hn : gn G = 104) (x1 : Int32) (I : Mem) : Cti G yX9_byteAt cX9_byteAt 2 (some .int) 0 0 [.ref 89, .int x1] I (f_X9_byteAt x1 I) := by
  refine Cti.of (ls := [some (.ref 89), some (.int x1)]) 0 hG (by decide) rfl (Nat.le_of_ble_eq_true rfl) ?_
  unfold f_X9_byteAt
  refine J_iload_n (pc := 0) (x := x1) dX9_byteAt_0 rfl ?_
  refine J_aload_n (pc := 1) (x := 89) dX9_byteAt_1 rfl ?_
  refine J_get (pc := 2) (t := 9) (k := 0) (.int (I 89 0)) (ok_m hn 89 (by decide) rfl) (by decide) rfl ingX9 (by decide) wd_429 rfl dX9_byteAt_2 ?_
  refine J_icmp_ge (pc := 5) (tgt := 17) dX9_byteAt_5 (by decide) ?_ ?_
  · refine J_iconst (pc := 17) (v := (0 : Int32)) dX9_byteAt_17 (by decide) ?_
    exact J_iret (pc := 18) dX9_byteAt_18
  · refine J_aload_n (pc := 8) (x := 89) dX9_byteAt_8 rfl ?_
    refine J_get (pc := 9) (t := 9) (k := 1) (.ref 90) (ok_m hn 89 (by decide) rfl) (by decide) rfl ingX9 (by decide) wd_430 rfl dX9_byteAt_9 ?_
    refine J_iload_n (pc := 12) (x := x1) dX9_byteAt_12 rfl ?_
    refine J_ck (fun hc1 => ?_)
    refine J_ild (pc := 13) (t := 30) (k := (tn x1)) (ok_m hn 90 (by decide) rfl) iT_30 (inb_in hc1) rfl dX9_byteAt_13 ?_
    refine J_goto (pc := 14) (tgt := 18) dX9_byteAt_14 (by decide) ?_
    exact J_iret (pc := 18) dX9_byteAt_18
abbrev mu_X9_figures (G : Gt) : Mt (Int32 × Mem) := mi G cX9_figures 5 yX9_figures.cls (some .int) 1 25
def b_X9_figures_5 (K65 : Int32 → Int32 → Int32 → Int32 → Mem → Option (Int32 × Mem)) (R : Int32 → Int32 → Int32 → Int32 → Mem → Option (Int32 × Mem)) (x1 : Int32) (x2 : Int32) (x3 : Int32) (x4 : Int32) (I : Mem) : Option (Int32 × Mem) :=
  (if (3 : Int32) ≤ x4 then K65 x1 x2 x3 x4 I else bI (f_X9_byteAt (I 89 6) I) fun r2 I1 => bI (f_X9_in ((r2).toInt64) (48 : Int64) (57 : Int64) I1) fun r4 I3 => (if r4 = 0 then K65 x1 x2 x3 x4 I3 else bI (f_X9_byteAt (I3 89 6) I3) fun r6 I5 => R x1 x2 ((((10 : Int32) * x3) + r6) - (48 : Int32)) (x4 + (1 : Int32)) (stm I5 89 6 ((I5 89 6) + (1 : Int32)))))
def l_X9_figures_5 (K65 : Int32 → Int32 → Int32 → Int32 → Mem → Option (Int32 × Mem)) : Nat → Int32 → Int32 → Int32 → Int32 → Mem → Option (Int32 × Mem) := fx (b_X9_figures_5 K65) (fun _ _ _ _ _ => none)
def j_X9_figures_65 (x1 : Int32) (x2 : Int32) (x3 : Int32) (x4 : Int32) (I : Mem) : Option (Int32 × Mem) :=
  (if x4 ≤ 0 then some ((-1 : Int32), I) else bI (f_X9_in ((x3).toInt64) ((x1).toInt64) ((x2).toInt64) I) fun r13 I12 => (if r13 = 0 then some ((-1 : Int32), I12) else some (x3, I12)))
def f_X9_figures (x1 : Int32) (x2 : Int32) (I : Mem) : Option (Int32 × Mem) :=
  l_X9_figures_5 (fun (z7 : Int32) (z8 : Int32) (z9 : Int32) (z10 : Int32) I11 => j_X9_figures_65 z7 z8 z9 z10 I11) fuel x1 x2 (0 : Int32) (0 : Int32) I
set_option maxRecDepth 100000 in
theorem tb_X9_figures_5 {G : Gt} (hG : Gok G) (hn : gn G = 104) {K65 : Int32 → Int32 → Int32 → Int32 → Mem → Option (Int32 × Mem)} (hK65 : ∀ (x1 : Int32) (x2 : Int32) (x3 : Int32) (x4 : Int32) (I : Mem), J G (mu_X9_figures G) 65 [none, some (.int x1), some (.int x2), some (.int x3), some (.int x4)] [] I (K65 x1 x2 x3 x4 I)) {R : Int32 → Int32 → Int32 → Int32 → Mem → Option (Int32 × Mem)} (hR : ∀ (x1 : Int32) (x2 : Int32) (x3 : Int32) (x4 : Int32) (I : Mem), J G (mu_X9_figures G) 5 [some (.ref 89), some (.int x1), some (.int x2), some (.int x3), some (.int x4)] [] I (R x1 x2 x3 x4 I)) (x1 : Int32) (x2 : Int32) (x3 : Int32) (x4 : Int32) (I : Mem) : J G (mu_X9_figures G) 5 [some (.ref 89), some (.int x1), some (.int x2), some (.int x3), some (.int x4)] [] I (b_X9_figures_5 K65 R x1 x2 x3 x4 I) := by
  unfold b_X9_figures_5
  refine J_iload (pc := 5) (x := x4) dX9_figures_5 rfl ?_
  refine J_iconst (pc := 7) (v := (3 : Int32)) dX9_figures_7 (by decide) ?_
  refine J_icmp_ge (pc := 8) (tgt := 65) dX9_figures_8 (by decide) ?_ ?_
  · refine J_weak (ls' := [none, some (.int x1), some (.int x2), some (.int x3), some (.int x4)]) ⟨rfl, rfl, rfl, rfl, trivial⟩ ?_
    exact hK65 x1 x2 x3 x4 I
  · refine J_aload_n (pc := 11) (x := 89) dX9_figures_11 rfl ?_
    refine J_aload_n (pc := 12) (x := 89) dX9_figures_12 rfl ?_
    refine J_get (pc := 13) (t := 9) (k := 6) (.int (I 89 6)) (ok_m hn 89 (by decide) rfl) (by decide) rfl ingX9 (by decide) wd_434 rfl dX9_figures_13 ?_
    refine J_callVi (pc := 16) (t := 9) (as := [.int (I 89 6)]) (st := []) (c_X9_byteAt hG hn (I 89 6) I) (ok_m hn 89 (by decide) rfl) (by decide) rfl (cw_RX9_68 rfl) wd_436 wd_435 rfl ⟨Nat.le_of_ble_eq_true rfl, Nat.le_of_ble_eq_true rfl, Nat.le_of_ble_eq_true rfl, Nat.le_of_ble_eq_true rfl⟩ (Nat.le_of_ble_eq_true rfl) rfl dX9_figures_16 (fun r2 I1 => ?_)
    refine J_i2l (pc := 19) dX9_figures_19 ?_
    refine J_ldc2 (pc := 20) (v := (48 : Int64)) wd_439 dX9_figures_20 ?_
    refine J_ldc2 (pc := 23) (v := (57 : Int64)) wd_440 dX9_figures_23 ?_
    refine J_callSi (pc := 26) (as := [.long ((r2).toInt64), .long (48 : Int64), .long (57 : Int64)]) (st := []) (c_X9_in hG hn ((r2).toInt64) (48 : Int64) (57 : Int64) I1) (cw_RX9_57 rfl) wd_425 rfl ⟨Nat.le_of_ble_eq_true rfl, Nat.le_of_ble_eq_true rfl, Nat.le_of_ble_eq_true rfl, Nat.le_of_ble_eq_true rfl⟩ (Nat.le_of_ble_eq_true rfl) rfl dX9_figures_26 (fun r4 I3 => ?_)
    refine J_if_eq (pc := 29) (tgt := 65) dX9_figures_29 (by decide) ?_ ?_
    · refine J_weak (ls' := [none, some (.int x1), some (.int x2), some (.int x3), some (.int x4)]) ⟨rfl, rfl, rfl, rfl, trivial⟩ ?_
      exact hK65 x1 x2 x3 x4 I3
    · refine J_bipush (pc := 32) (v := (10 : Int32)) dX9_figures_32 (by decide) ?_
      refine J_iload_n (pc := 34) (x := x3) dX9_figures_34 rfl ?_
      refine J_imul (pc := 35) dX9_figures_35 ?_
      refine J_aload_n (pc := 36) (x := 89) dX9_figures_36 rfl ?_
      refine J_aload_n (pc := 37) (x := 89) dX9_figures_37 rfl ?_
      refine J_get (pc := 38) (t := 9) (k := 6) (.int (I3 89 6)) (ok_m hn 89 (by decide) rfl) (by decide) rfl ingX9 (by decide) wd_434 rfl dX9_figures_38 ?_
      refine J_callVi (pc := 41) (t := 9) (as := [.int (I3 89 6)]) (st := [.int ((10 : Int32) * x3)]) (c_X9_byteAt hG hn (I3 89 6) I3) (ok_m hn 89 (by decide) rfl) (by decide) rfl (cw_RX9_68 rfl) wd_436 wd_435 rfl ⟨Nat.le_of_ble_eq_true rfl, Nat.le_of_ble_eq_true rfl, Nat.le_of_ble_eq_true rfl, Nat.le_of_ble_eq_true rfl⟩ (Nat.le_of_ble_eq_true rfl) rfl dX9_figures_41 (fun r6 I5 => ?_)
      refine J_iadd (pc := 44) dX9_figures_44 ?_
      refine J_bipush (pc := 45) (v := (48 : Int32)) dX9_figures_45 (by decide) ?_
      refine J_isub (pc := 47) dX9_figures_47 ?_
      refine J_istore_n (pc := 48) (ls' := [some (.ref 89), some (.int x1), some (.int x2), some (.int ((((10 : Int32) * x3) + r6) - (48 : Int32))), some (.int x4)]) dX9_figures_48 (Nat.le_of_ble_eq_true rfl) rfl rfl ?_
      refine J_aload_n (pc := 49) (x := 89) dX9_figures_49 rfl ?_
      refine J_dupR (pc := 50) dX9_figures_50 ?_
      refine J_get (pc := 51) (t := 9) (k := 6) (.int (I5 89 6)) (ok_m hn 89 (by decide) rfl) (by decide) rfl ingX9 (by decide) wd_434 rfl dX9_figures_51 ?_
      refine J_iconst (pc := 54) (v := (1 : Int32)) dX9_figures_54 (by decide) ?_
      refine J_iadd (pc := 55) dX9_figures_55 ?_
      refine J_put (pc := 56) (t := 9) (k := 6) (ok_m hn 89 (by decide) rfl) (by decide) rfl ingX9 tyX9 tyX9_ok nmX9 (by decide) wd_434 rfl pfI (Nat.le_of_ble_eq_true rfl) rfl dX9_figures_56 ?_
      refine J_iinc (pc := 59) (d := (1 : Int32)) (ls' := [some (.ref 89), some (.int x1), some (.int x2), some (.int ((((10 : Int32) * x3) + r6) - (48 : Int32))), some (.int (x4 + (1 : Int32)))]) dX9_figures_59 (by decide) rfl (Nat.le_of_ble_eq_true rfl) rfl rfl ?_
      refine J_goto (pc := 62) (tgt := 5) dX9_figures_62 (by decide) ?_
      exact hR x1 x2 ((((10 : Int32) * x3) + r6) - (48 : Int32)) (x4 + (1 : Int32)) (stm I5 89 6 ((I5 89 6) + (1 : Int32)))
theorem tl_X9_figures_5 {G : Gt} (hG : Gok G) (hn : gn G = 104) {K65 : Int32 → Int32 → Int32 → Int32 → Mem → Option (Int32 × Mem)} (hK65 : ∀ (x1 : Int32) (x2 : Int32) (x3 : Int32) (x4 : Int32) (I : Mem), J G (mu_X9_figures G) 65 [none, some (.int x1), some (.int x2), some (.int x3), some (.int x4)] [] I (K65 x1 x2 x3 x4 I)) (n : Nat) : ∀ (x1 : Int32) (x2 : Int32) (x3 : Int32) (x4 : Int32) (I : Mem), J G (mu_X9_figures G) 5 [some (.ref 89), some (.int x1), some (.int x2), some (.int x3), some (.int x4)] [] I (l_X9_figures_5 K65 n x1 x2 x3 x4 I) := by
  induction n with
  | zero => intro x1 x2 x3 x4 I; exact J_none
  | succ n ih => intro x1 x2 x3 x4 I; exact tb_X9_figures_5 hG hn hK65 ih x1 x2 x3 x4 I
set_option maxRecDepth 100000 in
theorem tj_X9_figures_65 {G : Gt} (hG : Gok G) (hn : gn G = 104) (x1 : Int32) (x2 : Int32) (x3 : Int32) (x4 : Int32) (I : Mem) : J G (mu_X9_figures G) 65 [none, some (.int x1), some (.int x2), some (.int x3), some (.int x4)] [] I (j_X9_figures_65 x1 x2 x3 x4 I) := by
  unfold j_X9_figures_65
  refine J_iload (pc := 65) (x := x4) dX9_figures_65 rfl ?_
  refine J_if_le (pc := 67) (tgt := 86) dX9_figures_67 (by decide) ?_ ?_
  · refine J_iconst (pc := 86) (v := (-1 : Int32)) dX9_figures_86 (by decide) ?_
    exact J_iret (pc := 87) dX9_figures_87
  · refine J_iload_n (pc := 70) (x := x3) dX9_figures_70 rfl ?_
    refine J_i2l (pc := 71) dX9_figures_71 ?_
    refine J_iload_n (pc := 72) (x := x1) dX9_figures_72 rfl ?_
    refine J_i2l (pc := 73) dX9_figures_73 ?_
    refine J_iload_n (pc := 74) (x := x2) dX9_figures_74 rfl ?_
    refine J_i2l (pc := 75) dX9_figures_75 ?_
    refine J_callSi (pc := 76) (as := [.long ((x3).toInt64), .long ((x1).toInt64), .long ((x2).toInt64)]) (st := []) (c_X9_in hG hn ((x3).toInt64) ((x1).toInt64) ((x2).toInt64) I) (cw_RX9_57 rfl) wd_425 rfl ⟨Nat.le_of_ble_eq_true rfl, Nat.le_of_ble_eq_true rfl, Nat.le_of_ble_eq_true rfl, Nat.le_of_ble_eq_true rfl⟩ (Nat.le_of_ble_eq_true rfl) rfl dX9_figures_76 (fun r13 I12 => ?_)
    refine J_if_eq (pc := 79) (tgt := 86) dX9_figures_79 (by decide) ?_ ?_
    · refine J_iconst (pc := 86) (v := (-1 : Int32)) dX9_figures_86 (by decide) ?_
      exact J_iret (pc := 87) dX9_figures_87
    · refine J_iload_n (pc := 82) (x := x3) dX9_figures_82 rfl ?_
      refine J_goto (pc := 83) (tgt := 87) dX9_figures_83 (by decide) ?_
      exact J_iret (pc := 87) dX9_figures_87
set_option maxRecDepth 100000 in
theorem c_X9_figures {G : Gt} (hG : Gok G) (hn : gn G = 104) (x1 : Int32) (x2 : Int32) (I : Mem) : Cti G yX9_figures cX9_figures 5 (some .int) 1 25 [.ref 89, .int x1, .int x2] I (f_X9_figures x1 x2 I) := by
  refine Cti.of (ls := [some (.ref 89), some (.int x1), some (.int x2), none, none]) 2 hG (by decide) rfl (Nat.le_of_ble_eq_true rfl) ?_
  unfold f_X9_figures
  refine J_iconst (pc := 0) (v := (0 : Int32)) dX9_figures_0 (by decide) ?_
  refine J_istore_n (pc := 1) (ls' := [some (.ref 89), some (.int x1), some (.int x2), some (.int (0 : Int32)), none]) dX9_figures_1 (Nat.le_of_ble_eq_true rfl) rfl rfl ?_
  refine J_iconst (pc := 2) (v := (0 : Int32)) dX9_figures_2 (by decide) ?_
  refine J_istore (pc := 3) (ls' := [some (.ref 89), some (.int x1), some (.int x2), some (.int (0 : Int32)), some (.int (0 : Int32))]) dX9_figures_3 (Nat.le_of_ble_eq_true rfl) rfl rfl ?_
  refine tl_X9_figures_5 hG hn (fun z7 z8 z9 z10 I11 => ?_) fuel x1 x2 (0 : Int32) (0 : Int32) I
  · exact tj_X9_figures_65 hG hn z7 z8 z9 z10 I11
abbrev mu_X9_tells (G : Gt) : Mt (Int32 × Mem) := mi G cX9_tells 5 yX9_tells.cls (some .boolean) 2 49
def f_X9_tells (x1 : Int32) (x2 : Int32) (x3 : Int32) (I : Mem) : Option (Int32 × Mem) :=
  bI (f_X9_figures x2 x3 I) fun r2 I1 => ck (inb x1 132) <| (if r2 = (-1 : Int32) then some ((0 : Int32), (stm I1 93 (tn x1) r2)) else some ((1 : Int32), (stm I1 93 (tn x1) r2)))
set_option maxRecDepth 100000 in
theorem c_X9_tells {G : Gt} (hG : Gok G) (hn : gn G = 104) (x1 : Int32) (x2 : Int32) (x3 : Int32) (I : Mem) : Cti G yX9_tells cX9_tells 5 (some .boolean) 2 49 [.ref 89, .int x1, .int x2, .int x3] I (f_X9_tells x1 x2 x3 I) := by
  refine Cti.of (ls := [some (.ref 89), some (.int x1), some (.int x2), some (.int x3), none]) 1 hG (by decide) rfl (Nat.le_of_ble_eq_true rfl) ?_
  unfold f_X9_tells
  refine J_aload_n (pc := 0) (x := 89) dX9_tells_0 rfl ?_
  refine J_iload_n (pc := 1) (x := x2) dX9_tells_1 rfl ?_
  refine J_iload_n (pc := 2) (x := x3) dX9_tells_2 rfl ?_
  refine J_callVi (pc := 3) (t := 9) (as := [.int x2, .int x3]) (st := []) (c_X9_figures hG hn x2 x3 I) (ok_m hn 89 (by decide) rfl) (by decide) rfl (cw_RX9_83 rfl) wd_442 wd_441 rfl ⟨Nat.le_of_ble_eq_true rfl, Nat.le_of_ble_eq_true rfl, Nat.le_of_ble_eq_true rfl, Nat.le_of_ble_eq_true rfl⟩ (Nat.le_of_ble_eq_true rfl) rfl dX9_tells_3 (fun r2 I1 => ?_)
  refine J_istore (pc := 6) (ls' := [some (.ref 89), some (.int x1), some (.int x2), some (.int x3), some (.int r2)]) dX9_tells_6 (Nat.le_of_ble_eq_true rfl) rfl rfl ?_
  refine J_aload_n (pc := 8) (x := 89) dX9_tells_8 rfl ?_
  refine J_get (pc := 9) (t := 9) (k := 5) (.ref 93) (ok_m hn 89 (by decide) rfl) (by decide) rfl ingX9 (by decide) wd_431 rfl dX9_tells_9 ?_
  refine J_iload_n (pc := 12) (x := x1) dX9_tells_12 rfl ?_
  refine J_iload (pc := 13) (x := r2) dX9_tells_13 rfl ?_
  refine J_ck (fun hc3 => ?_)
  refine J_ist (pc := 15) (t := 33) (k := (tn x1)) (ok_m hn 93 (by decide) rfl) iT_33 (inb_in hc3) rfl dX9_tells_15 ?_
  refine J_iload (pc := 16) (x := r2) dX9_tells_16 rfl ?_
  refine J_iconst (pc := 18) (v := (-1 : Int32)) dX9_tells_18 (by decide) ?_
  refine J_icmp_eq (pc := 19) (tgt := 26) dX9_tells_19 (by decide) ?_ ?_
  · refine J_iconst (pc := 26) (v := (0 : Int32)) dX9_tells_26 (by decide) ?_
    exact J_zret (pc := 27) rfl dX9_tells_27
  · refine J_iconst (pc := 22) (v := (1 : Int32)) dX9_tells_22 (by decide) ?_
    refine J_goto (pc := 23) (tgt := 27) dX9_tells_23 (by decide) ?_
    exact J_zret (pc := 27) rfl dX9_tells_27
abbrev mu_X9_isFold (G : Gt) : Mt (Int32 × Mem) := mi G cX9_isFold 1 yX9_isFold.cls (some .boolean) 0 0
def f_X9_isFold (x0 : Int32) (I : Mem) : Option (Int32 × Mem) :=
  (if x0 = (114 : Int32) then some ((1 : Int32), I) else (if x0 = (108 : Int32) then some ((1 : Int32), I) else (if x0 = (116 : Int32) then some ((1 : Int32), I) else (if x0 = (98 : Int32) then some ((1 : Int32), I) else some ((0 : Int32), I)))))
set_option maxRecDepth 100000 in
theorem c_X9_isFold {G : Gt} (hG : Gok G) (hn : gn G = 104) (x0 : Int32) (I : Mem) : Cti G yX9_isFold cX9_isFold 1 (some .boolean) 0 0 [.int x0] I (f_X9_isFold x0 I) := by
  refine Cti.of (ls := [some (.int x0)]) 0 hG (by decide) rfl (Nat.le_of_ble_eq_true rfl) ?_
  unfold f_X9_isFold
  refine J_iload_n (pc := 0) (x := x0) dX9_isFold_0 rfl ?_
  refine J_bipush (pc := 1) (v := (114 : Int32)) dX9_isFold_1 (by decide) ?_
  refine J_icmp_eq (pc := 3) (tgt := 24) dX9_isFold_3 (by decide) ?_ ?_
  · refine J_iconst (pc := 24) (v := (1 : Int32)) dX9_isFold_24 (by decide) ?_
    refine J_goto (pc := 25) (tgt := 29) dX9_isFold_25 (by decide) ?_
    exact J_zret (pc := 29) rfl dX9_isFold_29
  · refine J_iload_n (pc := 6) (x := x0) dX9_isFold_6 rfl ?_
    refine J_bipush (pc := 7) (v := (108 : Int32)) dX9_isFold_7 (by decide) ?_
    refine J_icmp_eq (pc := 9) (tgt := 24) dX9_isFold_9 (by decide) ?_ ?_
    · refine J_iconst (pc := 24) (v := (1 : Int32)) dX9_isFold_24 (by decide) ?_
      refine J_goto (pc := 25) (tgt := 29) dX9_isFold_25 (by decide) ?_
      exact J_zret (pc := 29) rfl dX9_isFold_29
    · refine J_iload_n (pc := 12) (x := x0) dX9_isFold_12 rfl ?_
      refine J_bipush (pc := 13) (v := (116 : Int32)) dX9_isFold_13 (by decide) ?_
      refine J_icmp_eq (pc := 15) (tgt := 24) dX9_isFold_15 (by decide) ?_ ?_
      · refine J_iconst (pc := 24) (v := (1 : Int32)) dX9_isFold_24 (by decide) ?_
        refine J_goto (pc := 25) (tgt := 29) dX9_isFold_25 (by decide) ?_
        exact J_zret (pc := 29) rfl dX9_isFold_29
      · refine J_iload_n (pc := 18) (x := x0) dX9_isFold_18 rfl ?_
        refine J_bipush (pc := 19) (v := (98 : Int32)) dX9_isFold_19 (by decide) ?_
        refine J_icmp_ne (pc := 21) (tgt := 28) dX9_isFold_21 (by decide) ?_ ?_
        · refine J_iconst (pc := 24) (v := (1 : Int32)) dX9_isFold_24 (by decide) ?_
          refine J_goto (pc := 25) (tgt := 29) dX9_isFold_25 (by decide) ?_
          exact J_zret (pc := 29) rfl dX9_isFold_29
        · refine J_iconst (pc := 28) (v := (0 : Int32)) dX9_isFold_28 (by decide) ?_
          exact J_zret (pc := 29) rfl dX9_isFold_29
abbrev mu_X9_isSide (G : Gt) : Mt (Int32 × Mem) := mi G cX9_isSide 1 yX9_isSide.cls (some .boolean) 0 0
def f_X9_isSide (x0 : Int32) (I : Mem) : Option (Int32 × Mem) :=
  (if x0 = (114 : Int32) then some ((1 : Int32), I) else (if x0 = (108 : Int32) then some ((1 : Int32), I) else some ((0 : Int32), I)))
set_option maxRecDepth 100000 in
theorem c_X9_isSide {G : Gt} (hG : Gok G) (hn : gn G = 104) (x0 : Int32) (I : Mem) : Cti G yX9_isSide cX9_isSide 1 (some .boolean) 0 0 [.int x0] I (f_X9_isSide x0 I) := by
  refine Cti.of (ls := [some (.int x0)]) 0 hG (by decide) rfl (Nat.le_of_ble_eq_true rfl) ?_
  unfold f_X9_isSide
  refine J_iload_n (pc := 0) (x := x0) dX9_isSide_0 rfl ?_
  refine J_bipush (pc := 1) (v := (114 : Int32)) dX9_isSide_1 (by decide) ?_
  refine J_icmp_eq (pc := 3) (tgt := 12) dX9_isSide_3 (by decide) ?_ ?_
  · refine J_iconst (pc := 12) (v := (1 : Int32)) dX9_isSide_12 (by decide) ?_
    refine J_goto (pc := 13) (tgt := 17) dX9_isSide_13 (by decide) ?_
    exact J_zret (pc := 17) rfl dX9_isSide_17
  · refine J_iload_n (pc := 6) (x := x0) dX9_isSide_6 rfl ?_
    refine J_bipush (pc := 7) (v := (108 : Int32)) dX9_isSide_7 (by decide) ?_
    refine J_icmp_ne (pc := 9) (tgt := 16) dX9_isSide_9 (by decide) ?_ ?_
    · refine J_iconst (pc := 12) (v := (1 : Int32)) dX9_isSide_12 (by decide) ?_
      refine J_goto (pc := 13) (tgt := 17) dX9_isSide_13 (by decide) ?_
      exact J_zret (pc := 17) rfl dX9_isSide_17
    · refine J_iconst (pc := 16) (v := (0 : Int32)) dX9_isSide_16 (by decide) ?_
      exact J_zret (pc := 17) rfl dX9_isSide_17
abbrev mu_X9_schemeItem (G : Gt) : Mt (Int32 × Mem) := mi G cX9_schemeItem 3 yX9_schemeItem.cls (some .boolean) 1 21
def b_X9_schemeItem_9 (K72 : Int32 → Int32 → Mem → Option (Int32 × Mem)) (R : Int32 → Int32 → Mem → Option (Int32 × Mem)) (x1 : Int32) (x2 : Int32) (I : Mem) : Option (Int32 × Mem) :=
  (if (4 : Int32) ≤ x1 then K72 x1 x2 I else (if (4 : Int32) ≤ x2 then K72 x1 x2 I else bI (f_X9_byteAt (I 89 6) I) fun r2 I1 => bI (f_X9_isFold r2 I1) fun r4 I3 => (if r4 = 0 then K72 x1 x2 I3 else bI (f_X9_byteAt (I3 89 6) I3) fun r6 I5 => ck (inb ((((8 : Int32) + ((5 : Int32) * x1)) + (1 : Int32)) + x2) 132) <| R x1 (x2 + (1 : Int32)) (stm (stm I5 93 (tn ((((8 : Int32) + ((5 : Int32) * x1)) + (1 : Int32)) + x2)) r6) 89 6 (((stm I5 93 (tn ((((8 : Int32) + ((5 : Int32) * x1)) + (1 : Int32)) + x2)) r6) 89 6) + (1 : Int32))))))
def l_X9_schemeItem_9 (K72 : Int32 → Int32 → Mem → Option (Int32 × Mem)) : Nat → Int32 → Int32 → Mem → Option (Int32 × Mem) := fx (b_X9_schemeItem_9 K72) (fun _ _ _ => none)
def j_X9_schemeItem_72 (x1 : Int32) (x2 : Int32) (I : Mem) : Option (Int32 × Mem) :=
  (if x2 = 0 then some ((0 : Int32), I) else bI (f_X9_byteAt ((I 89 6) - (1 : Int32)) I) fun r12 I11 => bI (f_X9_isSide r12 I11) fun r14 I13 => (if r14 = 0 then some ((0 : Int32), I13) else ck (inb ((8 : Int32) + ((5 : Int32) * x1)) 132) <| some ((1 : Int32), (stm (stm I13 93 (tn ((8 : Int32) + ((5 : Int32) * x1))) x2) 93 3 (((stm I13 93 (tn ((8 : Int32) + ((5 : Int32) * x1))) x2) 93 3) + (1 : Int32))))))
def f_X9_schemeItem (I : Mem) : Option (Int32 × Mem) :=
  l_X9_schemeItem_9 (fun (z8 : Int32) (z9 : Int32) I10 => j_X9_schemeItem_72 z8 z9 I10) fuel (I 93 3) (0 : Int32) I
set_option maxRecDepth 100000 in
theorem tb_X9_schemeItem_9 {G : Gt} (hG : Gok G) (hn : gn G = 104) {K72 : Int32 → Int32 → Mem → Option (Int32 × Mem)} (hK72 : ∀ (x1 : Int32) (x2 : Int32) (I : Mem), J G (mu_X9_schemeItem G) 72 [some (.ref 89), some (.int x1), some (.int x2)] [] I (K72 x1 x2 I)) {R : Int32 → Int32 → Mem → Option (Int32 × Mem)} (hR : ∀ (x1 : Int32) (x2 : Int32) (I : Mem), J G (mu_X9_schemeItem G) 9 [some (.ref 89), some (.int x1), some (.int x2)] [] I (R x1 x2 I)) (x1 : Int32) (x2 : Int32) (I : Mem) : J G (mu_X9_schemeItem G) 9 [some (.ref 89), some (.int x1), some (.int x2)] [] I (b_X9_schemeItem_9 K72 R x1 x2 I) := by
  unfold b_X9_schemeItem_9
  refine J_iload_n (pc := 9) (x := x1) dX9_schemeItem_9 rfl ?_
  refine J_iconst (pc := 10) (v := (4 : Int32)) dX9_schemeItem_10 (by decide) ?_
  refine J_icmp_ge (pc := 11) (tgt := 72) dX9_schemeItem_11 (by decide) ?_ ?_
  · exact hK72 x1 x2 I
  · refine J_iload_n (pc := 14) (x := x2) dX9_schemeItem_14 rfl ?_
    refine J_iconst (pc := 15) (v := (4 : Int32)) dX9_schemeItem_15 (by decide) ?_
    refine J_icmp_ge (pc := 16) (tgt := 72) dX9_schemeItem_16 (by decide) ?_ ?_
    · exact hK72 x1 x2 I
    · refine J_aload_n (pc := 19) (x := 89) dX9_schemeItem_19 rfl ?_
      refine J_aload_n (pc := 20) (x := 89) dX9_schemeItem_20 rfl ?_
      refine J_get (pc := 21) (t := 9) (k := 6) (.int (I 89 6)) (ok_m hn 89 (by decide) rfl) (by decide) rfl ingX9 (by decide) wd_434 rfl dX9_schemeItem_21 ?_
      refine J_callVi (pc := 24) (t := 9) (as := [.int (I 89 6)]) (st := []) (c_X9_byteAt hG hn (I 89 6) I) (ok_m hn 89 (by decide) rfl) (by decide) rfl (cw_RX9_68 rfl) wd_436 wd_435 rfl ⟨Nat.le_of_ble_eq_true rfl, Nat.le_of_ble_eq_true rfl, Nat.le_of_ble_eq_true rfl, Nat.le_of_ble_eq_true rfl⟩ (Nat.le_of_ble_eq_true rfl) rfl dX9_schemeItem_24 (fun r2 I1 => ?_)
      refine J_callSi (pc := 27) (as := [.int r2]) (st := []) (c_X9_isFold hG hn r2 I1) (cw_RX9_76 rfl) wd_449 rfl ⟨Nat.le_of_ble_eq_true rfl, Nat.le_of_ble_eq_true rfl, Nat.le_of_ble_eq_true rfl, Nat.le_of_ble_eq_true rfl⟩ (Nat.le_of_ble_eq_true rfl) rfl dX9_schemeItem_27 (fun r4 I3 => ?_)
      refine J_if_eq (pc := 30) (tgt := 72) dX9_schemeItem_30 (by decide) ?_ ?_
      · exact hK72 x1 x2 I3
      · refine J_aload_n (pc := 33) (x := 89) dX9_schemeItem_33 rfl ?_
        refine J_get (pc := 34) (t := 9) (k := 5) (.ref 93) (ok_m hn 89 (by decide) rfl) (by decide) rfl ingX9 (by decide) wd_431 rfl dX9_schemeItem_34 ?_
        refine J_bipush (pc := 37) (v := (8 : Int32)) dX9_schemeItem_37 (by decide) ?_
        refine J_iconst (pc := 39) (v := (5 : Int32)) dX9_schemeItem_39 (by decide) ?_
        refine J_iload_n (pc := 40) (x := x1) dX9_schemeItem_40 rfl ?_
        refine J_imul (pc := 41) dX9_schemeItem_41 ?_
        refine J_iadd (pc := 42) dX9_schemeItem_42 ?_
        refine J_iconst (pc := 43) (v := (1 : Int32)) dX9_schemeItem_43 (by decide) ?_
        refine J_iadd (pc := 44) dX9_schemeItem_44 ?_
        refine J_iload_n (pc := 45) (x := x2) dX9_schemeItem_45 rfl ?_
        refine J_iadd (pc := 46) dX9_schemeItem_46 ?_
        refine J_aload_n (pc := 47) (x := 89) dX9_schemeItem_47 rfl ?_
        refine J_aload_n (pc := 48) (x := 89) dX9_schemeItem_48 rfl ?_
        refine J_get (pc := 49) (t := 9) (k := 6) (.int (I3 89 6)) (ok_m hn 89 (by decide) rfl) (by decide) rfl ingX9 (by decide) wd_434 rfl dX9_schemeItem_49 ?_
        refine J_callVi (pc := 52) (t := 9) (as := [.int (I3 89 6)]) (st := [.int ((((8 : Int32) + ((5 : Int32) * x1)) + (1 : Int32)) + x2), .ref 93]) (c_X9_byteAt hG hn (I3 89 6) I3) (ok_m hn 89 (by decide) rfl) (by decide) rfl (cw_RX9_68 rfl) wd_436 wd_435 rfl ⟨Nat.le_of_ble_eq_true rfl, Nat.le_of_ble_eq_true rfl, Nat.le_of_ble_eq_true rfl, Nat.le_of_ble_eq_true rfl⟩ (Nat.le_of_ble_eq_true rfl) rfl dX9_schemeItem_52 (fun r6 I5 => ?_)
        refine J_ck (fun hc7 => ?_)
        refine J_ist (pc := 55) (t := 33) (k := (tn ((((8 : Int32) + ((5 : Int32) * x1)) + (1 : Int32)) + x2))) (ok_m hn 93 (by decide) rfl) iT_33 (inb_in hc7) rfl dX9_schemeItem_55 ?_
        refine J_aload_n (pc := 56) (x := 89) dX9_schemeItem_56 rfl ?_
        refine J_dupR (pc := 57) dX9_schemeItem_57 ?_
        refine J_get (pc := 58) (t := 9) (k := 6) (.int ((stm I5 93 (tn ((((8 : Int32) + ((5 : Int32) * x1)) + (1 : Int32)) + x2)) r6) 89 6)) (ok_m hn 89 (by decide) rfl) (by decide) rfl ingX9 (by decide) wd_434 rfl dX9_schemeItem_58 ?_
        refine J_iconst (pc := 61) (v := (1 : Int32)) dX9_schemeItem_61 (by decide) ?_
        refine J_iadd (pc := 62) dX9_schemeItem_62 ?_
        refine J_put (pc := 63) (t := 9) (k := 6) (ok_m hn 89 (by decide) rfl) (by decide) rfl ingX9 tyX9 tyX9_ok nmX9 (by decide) wd_434 rfl pfI (Nat.le_of_ble_eq_true rfl) rfl dX9_schemeItem_63 ?_
        refine J_iinc (pc := 66) (d := (1 : Int32)) (ls' := [some (.ref 89), some (.int x1), some (.int (x2 + (1 : Int32)))]) dX9_schemeItem_66 (by decide) rfl (Nat.le_of_ble_eq_true rfl) rfl rfl ?_
        refine J_goto (pc := 69) (tgt := 9) dX9_schemeItem_69 (by decide) ?_
        exact hR x1 (x2 + (1 : Int32)) (stm (stm I5 93 (tn ((((8 : Int32) + ((5 : Int32) * x1)) + (1 : Int32)) + x2)) r6) 89 6 (((stm I5 93 (tn ((((8 : Int32) + ((5 : Int32) * x1)) + (1 : Int32)) + x2)) r6) 89 6) + (1 : Int32)))
theorem tl_X9_schemeItem_9 {G : Gt} (hG : Gok G) (hn : gn G = 104) {K72 : Int32 → Int32 → Mem → Option (Int32 × Mem)} (hK72 : ∀ (x1 : Int32) (x2 : Int32) (I : Mem), J G (mu_X9_schemeItem G) 72 [some (.ref 89), some (.int x1), some (.int x2)] [] I (K72 x1 x2 I)) (n : Nat) : ∀ (x1 : Int32) (x2 : Int32) (I : Mem), J G (mu_X9_schemeItem G) 9 [some (.ref 89), some (.int x1), some (.int x2)] [] I (l_X9_schemeItem_9 K72 n x1 x2 I) := by
  induction n with
  | zero => intro x1 x2 I; exact J_none
  | succ n ih => intro x1 x2 I; exact tb_X9_schemeItem_9 hG hn hK72 ih x1 x2 I
set_option maxRecDepth 100000 in
theorem tj_X9_schemeItem_72 {G : Gt} (hG : Gok G) (hn : gn G = 104) (x1 : Int32) (x2 : Int32) (I : Mem) : J G (mu_X9_schemeItem G) 72 [some (.ref 89), some (.int x1), some (.int x2)] [] I (j_X9_schemeItem_72 x1 x2 I) := by
  unfold j_X9_schemeItem_72
  refine J_iload_n (pc := 72) (x := x2) dX9_schemeItem_72 rfl ?_
  refine J_if_eq (pc := 73) (tgt := 92) dX9_schemeItem_73 (by decide) ?_ ?_
  · refine J_iconst (pc := 92) (v := (0 : Int32)) dX9_schemeItem_92 (by decide) ?_
    exact J_zret (pc := 93) rfl dX9_schemeItem_93
  · refine J_aload_n (pc := 76) (x := 89) dX9_schemeItem_76 rfl ?_
    refine J_aload_n (pc := 77) (x := 89) dX9_schemeItem_77 rfl ?_
    refine J_get (pc := 78) (t := 9) (k := 6) (.int (I 89 6)) (ok_m hn 89 (by decide) rfl) (by decide) rfl ingX9 (by decide) wd_434 rfl dX9_schemeItem_78 ?_
    refine J_iconst (pc := 81) (v := (1 : Int32)) dX9_schemeItem_81 (by decide) ?_
    refine J_isub (pc := 82) dX9_schemeItem_82 ?_
    refine J_callVi (pc := 83) (t := 9) (as := [.int ((I 89 6) - (1 : Int32))]) (st := []) (c_X9_byteAt hG hn ((I 89 6) - (1 : Int32)) I) (ok_m hn 89 (by decide) rfl) (by decide) rfl (cw_RX9_68 rfl) wd_436 wd_435 rfl ⟨Nat.le_of_ble_eq_true rfl, Nat.le_of_ble_eq_true rfl, Nat.le_of_ble_eq_true rfl, Nat.le_of_ble_eq_true rfl⟩ (Nat.le_of_ble_eq_true rfl) rfl dX9_schemeItem_83 (fun r12 I11 => ?_)
    refine J_callSi (pc := 86) (as := [.int r12]) (st := []) (c_X9_isSide hG hn r12 I11) (cw_RX9_80 rfl) wd_452 rfl ⟨Nat.le_of_ble_eq_true rfl, Nat.le_of_ble_eq_true rfl, Nat.le_of_ble_eq_true rfl, Nat.le_of_ble_eq_true rfl⟩ (Nat.le_of_ble_eq_true rfl) rfl dX9_schemeItem_86 (fun r14 I13 => ?_)
    refine J_if_ne (pc := 89) (tgt := 94) dX9_schemeItem_89 (by decide) ?_ ?_
    · refine J_iconst (pc := 92) (v := (0 : Int32)) dX9_schemeItem_92 (by decide) ?_
      exact J_zret (pc := 93) rfl dX9_schemeItem_93
    · refine J_aload_n (pc := 94) (x := 89) dX9_schemeItem_94 rfl ?_
      refine J_get (pc := 95) (t := 9) (k := 5) (.ref 93) (ok_m hn 89 (by decide) rfl) (by decide) rfl ingX9 (by decide) wd_431 rfl dX9_schemeItem_95 ?_
      refine J_bipush (pc := 98) (v := (8 : Int32)) dX9_schemeItem_98 (by decide) ?_
      refine J_iconst (pc := 100) (v := (5 : Int32)) dX9_schemeItem_100 (by decide) ?_
      refine J_iload_n (pc := 101) (x := x1) dX9_schemeItem_101 rfl ?_
      refine J_imul (pc := 102) dX9_schemeItem_102 ?_
      refine J_iadd (pc := 103) dX9_schemeItem_103 ?_
      refine J_iload_n (pc := 104) (x := x2) dX9_schemeItem_104 rfl ?_
      refine J_ck (fun hc15 => ?_)
      refine J_ist (pc := 105) (t := 33) (k := (tn ((8 : Int32) + ((5 : Int32) * x1)))) (ok_m hn 93 (by decide) rfl) iT_33 (inb_in hc15) rfl dX9_schemeItem_105 ?_
      refine J_aload_n (pc := 106) (x := 89) dX9_schemeItem_106 rfl ?_
      refine J_get (pc := 107) (t := 9) (k := 5) (.ref 93) (ok_m hn 89 (by decide) rfl) (by decide) rfl ingX9 (by decide) wd_431 rfl dX9_schemeItem_107 ?_
      refine J_iconst (pc := 110) (v := (3 : Int32)) dX9_schemeItem_110 (by decide) ?_
      refine J_dup2 (pc := 111) dX9_schemeItem_111 ?_
      refine J_ild (pc := 112) (t := 33) (k := 3) (ok_m hn 93 (by decide) rfl) iT_33 (inb_in (by decide)) (by decide) dX9_schemeItem_112 ?_
      refine J_iconst (pc := 113) (v := (1 : Int32)) dX9_schemeItem_113 (by decide) ?_
      refine J_iadd (pc := 114) dX9_schemeItem_114 ?_
      refine J_ist (pc := 115) (t := 33) (k := 3) (ok_m hn 93 (by decide) rfl) iT_33 (inb_in (by decide)) (by decide) dX9_schemeItem_115 ?_
      refine J_iconst (pc := 116) (v := (1 : Int32)) dX9_schemeItem_116 (by decide) ?_
      exact J_zret (pc := 117) rfl dX9_schemeItem_117
set_option maxRecDepth 100000 in
theorem c_X9_schemeItem {G : Gt} (hG : Gok G) (hn : gn G = 104) (I : Mem) : Cti G yX9_schemeItem cX9_schemeItem 3 (some .boolean) 1 21 [.ref 89] I (f_X9_schemeItem I) := by
  refine Cti.of (ls := [some (.ref 89), none, none]) 2 hG (by decide) rfl (Nat.le_of_ble_eq_true rfl) ?_
  unfold f_X9_schemeItem
  refine J_aload_n (pc := 0) (x := 89) dX9_schemeItem_0 rfl ?_
  refine J_get (pc := 1) (t := 9) (k := 5) (.ref 93) (ok_m hn 89 (by decide) rfl) (by decide) rfl ingX9 (by decide) wd_431 rfl dX9_schemeItem_1 ?_
  refine J_iconst (pc := 4) (v := (3 : Int32)) dX9_schemeItem_4 (by decide) ?_
  refine J_ild (pc := 5) (t := 33) (k := 3) (ok_m hn 93 (by decide) rfl) iT_33 (inb_in (by decide)) (by decide) dX9_schemeItem_5 ?_
  refine J_istore_n (pc := 6) (ls' := [some (.ref 89), some (.int (I 93 3)), none]) dX9_schemeItem_6 (Nat.le_of_ble_eq_true rfl) rfl rfl ?_
  refine J_iconst (pc := 7) (v := (0 : Int32)) dX9_schemeItem_7 (by decide) ?_
  refine J_istore_n (pc := 8) (ls' := [some (.ref 89), some (.int (I 93 3)), some (.int (0 : Int32))]) dX9_schemeItem_8 (Nat.le_of_ble_eq_true rfl) rfl rfl ?_
  refine tl_X9_schemeItem_9 hG hn (fun z8 z9 I10 => ?_) fuel (I 93 3) (0 : Int32) I
  · exact tj_X9_schemeItem_72 hG hn z8 z9 I10
abbrev mu_X9_item (G : Gt) : Mt (Int32 × Mem) := mi G cX9_item 3 yX9_item.cls (some .boolean) 3 73
def f_X9_item (x1 : Int32) (I : Mem) : Option (Int32 × Mem) :=
  (if x1 = (99 : Int32) then bI (f_X9_tells (1 : Int32) (0 : Int32) (20 : Int32) I) fun r3 I2 => ck (r3 == 0 || r3 == 1) <| some (r3, I2) else (if x1 = (100 : Int32) then some ((0 : Int32), I) else (if x1 = (101 : Int32) then some ((0 : Int32), I) else (if x1 = (102 : Int32) then some ((0 : Int32), I) else (if x1 = (103 : Int32) then some ((0 : Int32), I) else (if x1 = (104 : Int32) then some ((0 : Int32), I) else (if x1 = (105 : Int32) then some ((0 : Int32), I) else (if x1 = (106 : Int32) then some ((0 : Int32), I) else (if x1 = (107 : Int32) then bI (f_X9_schemeItem I) fun r14 I13 => ck (r14 == 0 || r14 == 1) <| some (r14, I13) else (if x1 = (108 : Int32) then some ((0 : Int32), I) else (if x1 = (109 : Int32) then bI (f_X9_tells (2 : Int32) (0 : Int32) (1 : Int32) I) fun r19 I18 => ck (r19 == 0 || r19 == 1) <| some (r19, I18) else (if x1 = (110 : Int32) then bI (f_X9_tells (0 : Int32) (1 : Int32) (400 : Int32) I) fun r23 I22 => ck (r23 == 0 || r23 == 1) <| some (r23, I22) else (if x1 = (111 : Int32) then some ((0 : Int32), I) else (if x1 = (112 : Int32) then bI (f_X9_figures (0 : Int32) ((I 93 3) - (1 : Int32)) I) fun r28 I27 => (if r28 = (-1 : Int32) then some ((0 : Int32), (stm I27 89 6 ((I27 89 6) + (1 : Int32)))) else bI (f_X9_byteAt (((stm I27 89 6 ((I27 89 6) + (1 : Int32))) 89 6) - (1 : Int32)) (stm I27 89 6 ((I27 89 6) + (1 : Int32)))) fun r30 I29 => (if r30 = (44 : Int32) then bI (f_X9_tells ((4 : Int32) + r28) (0 : Int32) (99 : Int32) I29) fun r32 I31 => (if r32 = 0 then some ((0 : Int32), I31) else some ((1 : Int32), I31)) else some ((0 : Int32), I29))) else some ((0 : Int32), I)))))))))))))))
set_option maxRecDepth 100000 in
theorem c_X9_item {G : Gt} (hG : Gok G) (hn : gn G = 104) (x1 : Int32) (I : Mem) : Cti G yX9_item cX9_item 3 (some .boolean) 3 73 [.ref 89, .int x1] I (f_X9_item x1 I) := by
  refine Cti.of (ls := [some (.ref 89), some (.int x1), none]) 1 hG (by decide) rfl (Nat.le_of_ble_eq_true rfl) ?_
  unfold f_X9_item
  refine J_iload_n (pc := 0) (x := x1) dX9_item_0 rfl ?_
  refine J_ite (fun hq1 => ?_) (fun hq1 => ?_)
  · refine J_tblIn (pc := 1) (off := 149) (tgt := 150) dX9_item_1 (by rw [hq1]; decide) (by rw [hq1]; decide) (by rw [hq1]; decide) (by decide) ?_
    refine J_aload_n (pc := 150) (x := 89) dX9_item_150 rfl ?_
    refine J_iconst (pc := 151) (v := (1 : Int32)) dX9_item_151 (by decide) ?_
    refine J_iconst (pc := 152) (v := (0 : Int32)) dX9_item_152 (by decide) ?_
    refine J_bipush (pc := 153) (v := (20 : Int32)) dX9_item_153 (by decide) ?_
    refine J_callVi (pc := 155) (t := 9) (as := [.int (1 : Int32), .int (0 : Int32), .int (20 : Int32)]) (st := []) (c_X9_tells hG hn (1 : Int32) (0 : Int32) (20 : Int32) I) (ok_m hn 89 (by decide) rfl) (by decide) rfl (cw_RX9_91 rfl) wd_446 wd_445 rfl ⟨Nat.le_of_ble_eq_true rfl, Nat.le_of_ble_eq_true rfl, Nat.le_of_ble_eq_true rfl, Nat.le_of_ble_eq_true rfl⟩ (Nat.le_of_ble_eq_true rfl) rfl dX9_item_155 (fun r3 I2 => ?_)
    refine J_ck (fun hc4 => ?_)
    exact J_zret (pc := 158) (nar01 hc4) dX9_item_158
  refine J_ite (fun hq5 => ?_) (fun hq5 => ?_)
  · refine J_tblIn (pc := 1) (off := 166) (tgt := 167) dX9_item_1 (by rw [hq5]; decide) (by rw [hq5]; decide) (by rw [hq5]; decide) (by decide) ?_
    refine J_iconst (pc := 167) (v := (0 : Int32)) dX9_item_167 (by decide) ?_
    exact J_zret (pc := 168) rfl dX9_item_168
  refine J_ite (fun hq6 => ?_) (fun hq6 => ?_)
  · refine J_tblIn (pc := 1) (off := 166) (tgt := 167) dX9_item_1 (by rw [hq6]; decide) (by rw [hq6]; decide) (by rw [hq6]; decide) (by decide) ?_
    refine J_iconst (pc := 167) (v := (0 : Int32)) dX9_item_167 (by decide) ?_
    exact J_zret (pc := 168) rfl dX9_item_168
  refine J_ite (fun hq7 => ?_) (fun hq7 => ?_)
  · refine J_tblIn (pc := 1) (off := 166) (tgt := 167) dX9_item_1 (by rw [hq7]; decide) (by rw [hq7]; decide) (by rw [hq7]; decide) (by decide) ?_
    refine J_iconst (pc := 167) (v := (0 : Int32)) dX9_item_167 (by decide) ?_
    exact J_zret (pc := 168) rfl dX9_item_168
  refine J_ite (fun hq8 => ?_) (fun hq8 => ?_)
  · refine J_tblIn (pc := 1) (off := 166) (tgt := 167) dX9_item_1 (by rw [hq8]; decide) (by rw [hq8]; decide) (by rw [hq8]; decide) (by decide) ?_
    refine J_iconst (pc := 167) (v := (0 : Int32)) dX9_item_167 (by decide) ?_
    exact J_zret (pc := 168) rfl dX9_item_168
  refine J_ite (fun hq9 => ?_) (fun hq9 => ?_)
  · refine J_tblIn (pc := 1) (off := 166) (tgt := 167) dX9_item_1 (by rw [hq9]; decide) (by rw [hq9]; decide) (by rw [hq9]; decide) (by decide) ?_
    refine J_iconst (pc := 167) (v := (0 : Int32)) dX9_item_167 (by decide) ?_
    exact J_zret (pc := 168) rfl dX9_item_168
  refine J_ite (fun hq10 => ?_) (fun hq10 => ?_)
  · refine J_tblIn (pc := 1) (off := 166) (tgt := 167) dX9_item_1 (by rw [hq10]; decide) (by rw [hq10]; decide) (by rw [hq10]; decide) (by decide) ?_
    refine J_iconst (pc := 167) (v := (0 : Int32)) dX9_item_167 (by decide) ?_
    exact J_zret (pc := 168) rfl dX9_item_168
  refine J_ite (fun hq11 => ?_) (fun hq11 => ?_)
  · refine J_tblIn (pc := 1) (off := 166) (tgt := 167) dX9_item_1 (by rw [hq11]; decide) (by rw [hq11]; decide) (by rw [hq11]; decide) (by decide) ?_
    refine J_iconst (pc := 167) (v := (0 : Int32)) dX9_item_167 (by decide) ?_
    exact J_zret (pc := 168) rfl dX9_item_168
  refine J_ite (fun hq12 => ?_) (fun hq12 => ?_)
  · refine J_tblIn (pc := 1) (off := 71) (tgt := 72) dX9_item_1 (by rw [hq12]; decide) (by rw [hq12]; decide) (by rw [hq12]; decide) (by decide) ?_
    refine J_aload_n (pc := 72) (x := 89) dX9_item_72 rfl ?_
    refine J_callVi (pc := 73) (t := 9) (as := []) (st := []) (c_X9_schemeItem hG hn I) (ok_m hn 89 (by decide) rfl) (by decide) rfl (cw_RX9_87 rfl) wd_456 wd_455 rfl ⟨Nat.le_of_ble_eq_true rfl, Nat.le_of_ble_eq_true rfl, Nat.le_of_ble_eq_true rfl, Nat.le_of_ble_eq_true rfl⟩ (Nat.le_of_ble_eq_true rfl) rfl dX9_item_73 (fun r14 I13 => ?_)
    refine J_ck (fun hc15 => ?_)
    exact J_zret (pc := 76) (nar01 hc15) dX9_item_76
  refine J_ite (fun hq16 => ?_) (fun hq16 => ?_)
  · refine J_tblIn (pc := 1) (off := 166) (tgt := 167) dX9_item_1 (by rw [hq16]; decide) (by rw [hq16]; decide) (by rw [hq16]; decide) (by decide) ?_
    refine J_iconst (pc := 167) (v := (0 : Int32)) dX9_item_167 (by decide) ?_
    exact J_zret (pc := 168) rfl dX9_item_168
  refine J_ite (fun hq17 => ?_) (fun hq17 => ?_)
  · refine J_tblIn (pc := 1) (off := 158) (tgt := 159) dX9_item_1 (by rw [hq17]; decide) (by rw [hq17]; decide) (by rw [hq17]; decide) (by decide) ?_
    refine J_aload_n (pc := 159) (x := 89) dX9_item_159 rfl ?_
    refine J_iconst (pc := 160) (v := (2 : Int32)) dX9_item_160 (by decide) ?_
    refine J_iconst (pc := 161) (v := (0 : Int32)) dX9_item_161 (by decide) ?_
    refine J_iconst (pc := 162) (v := (1 : Int32)) dX9_item_162 (by decide) ?_
    refine J_callVi (pc := 163) (t := 9) (as := [.int (2 : Int32), .int (0 : Int32), .int (1 : Int32)]) (st := []) (c_X9_tells hG hn (2 : Int32) (0 : Int32) (1 : Int32) I) (ok_m hn 89 (by decide) rfl) (by decide) rfl (cw_RX9_91 rfl) wd_446 wd_445 rfl ⟨Nat.le_of_ble_eq_true rfl, Nat.le_of_ble_eq_true rfl, Nat.le_of_ble_eq_true rfl, Nat.le_of_ble_eq_true rfl⟩ (Nat.le_of_ble_eq_true rfl) rfl dX9_item_163 (fun r19 I18 => ?_)
    refine J_ck (fun hc20 => ?_)
    exact J_zret (pc := 166) (nar01 hc20) dX9_item_166
  refine J_ite (fun hq21 => ?_) (fun hq21 => ?_)
  · refine J_tblIn (pc := 1) (off := 139) (tgt := 140) dX9_item_1 (by rw [hq21]; decide) (by rw [hq21]; decide) (by rw [hq21]; decide) (by decide) ?_
    refine J_aload_n (pc := 140) (x := 89) dX9_item_140 rfl ?_
    refine J_iconst (pc := 141) (v := (0 : Int32)) dX9_item_141 (by decide) ?_
    refine J_iconst (pc := 142) (v := (1 : Int32)) dX9_item_142 (by decide) ?_
    refine J_sipush (pc := 143) (v := (400 : Int32)) dX9_item_143 (by decide) ?_
    refine J_callVi (pc := 146) (t := 9) (as := [.int (0 : Int32), .int (1 : Int32), .int (400 : Int32)]) (st := []) (c_X9_tells hG hn (0 : Int32) (1 : Int32) (400 : Int32) I) (ok_m hn 89 (by decide) rfl) (by decide) rfl (cw_RX9_91 rfl) wd_446 wd_445 rfl ⟨Nat.le_of_ble_eq_true rfl, Nat.le_of_ble_eq_true rfl, Nat.le_of_ble_eq_true rfl, Nat.le_of_ble_eq_true rfl⟩ (Nat.le_of_ble_eq_true rfl) rfl dX9_item_146 (fun r23 I22 => ?_)
    refine J_ck (fun hc24 => ?_)
    exact J_zret (pc := 149) (nar01 hc24) dX9_item_149
  refine J_ite (fun hq25 => ?_) (fun hq25 => ?_)
  · refine J_tblIn (pc := 1) (off := 166) (tgt := 167) dX9_item_1 (by rw [hq25]; decide) (by rw [hq25]; decide) (by rw [hq25]; decide) (by decide) ?_
    refine J_iconst (pc := 167) (v := (0 : Int32)) dX9_item_167 (by decide) ?_
    exact J_zret (pc := 168) rfl dX9_item_168
  refine J_ite (fun hq26 => ?_) (fun hq26 => ?_)
  · refine J_tblIn (pc := 1) (off := 76) (tgt := 77) dX9_item_1 (by rw [hq26]; decide) (by rw [hq26]; decide) (by rw [hq26]; decide) (by decide) ?_
    refine J_aload_n (pc := 77) (x := 89) dX9_item_77 rfl ?_
    refine J_iconst (pc := 78) (v := (0 : Int32)) dX9_item_78 (by decide) ?_
    refine J_aload_n (pc := 79) (x := 89) dX9_item_79 rfl ?_
    refine J_get (pc := 80) (t := 9) (k := 5) (.ref 93) (ok_m hn 89 (by decide) rfl) (by decide) rfl ingX9 (by decide) wd_431 rfl dX9_item_80 ?_
    refine J_iconst (pc := 83) (v := (3 : Int32)) dX9_item_83 (by decide) ?_
    refine J_ild (pc := 84) (t := 33) (k := 3) (ok_m hn 93 (by decide) rfl) iT_33 (inb_in (by decide)) (by decide) dX9_item_84 ?_
    refine J_iconst (pc := 85) (v := (1 : Int32)) dX9_item_85 (by decide) ?_
    refine J_isub (pc := 86) dX9_item_86 ?_
    refine J_callVi (pc := 87) (t := 9) (as := [.int (0 : Int32), .int ((I 93 3) - (1 : Int32))]) (st := []) (c_X9_figures hG hn (0 : Int32) ((I 93 3) - (1 : Int32)) I) (ok_m hn 89 (by decide) rfl) (by decide) rfl (cw_RX9_83 rfl) wd_442 wd_441 rfl ⟨Nat.le_of_ble_eq_true rfl, Nat.le_of_ble_eq_true rfl, Nat.le_of_ble_eq_true rfl, Nat.le_of_ble_eq_true rfl⟩ (Nat.le_of_ble_eq_true rfl) rfl dX9_item_87 (fun r28 I27 => ?_)
    refine J_istore_n (pc := 90) (ls' := [some (.ref 89), some (.int x1), some (.int r28)]) dX9_item_90 (Nat.le_of_ble_eq_true rfl) rfl rfl ?_
    refine J_aload_n (pc := 91) (x := 89) dX9_item_91 rfl ?_
    refine J_dupR (pc := 92) dX9_item_92 ?_
    refine J_get (pc := 93) (t := 9) (k := 6) (.int (I27 89 6)) (ok_m hn 89 (by decide) rfl) (by decide) rfl ingX9 (by decide) wd_434 rfl dX9_item_93 ?_
    refine J_iconst (pc := 96) (v := (1 : Int32)) dX9_item_96 (by decide) ?_
    refine J_iadd (pc := 97) dX9_item_97 ?_
    refine J_put (pc := 98) (t := 9) (k := 6) (ok_m hn 89 (by decide) rfl) (by decide) rfl ingX9 tyX9 tyX9_ok nmX9 (by decide) wd_434 rfl pfI (Nat.le_of_ble_eq_true rfl) rfl dX9_item_98 ?_
    refine J_iload_n (pc := 101) (x := r28) dX9_item_101 rfl ?_
    refine J_iconst (pc := 102) (v := (-1 : Int32)) dX9_item_102 (by decide) ?_
    refine J_icmp_eq (pc := 103) (tgt := 138) dX9_item_103 (by decide) ?_ ?_
    · refine J_iconst (pc := 138) (v := (0 : Int32)) dX9_item_138 (by decide) ?_
      exact J_zret (pc := 139) rfl dX9_item_139
    · refine J_aload_n (pc := 106) (x := 89) dX9_item_106 rfl ?_
      refine J_aload_n (pc := 107) (x := 89) dX9_item_107 rfl ?_
      refine J_get (pc := 108) (t := 9) (k := 6) (.int ((stm I27 89 6 ((I27 89 6) + (1 : Int32))) 89 6)) (ok_m hn 89 (by decide) rfl) (by decide) rfl ingX9 (by decide) wd_434 rfl dX9_item_108 ?_
      refine J_iconst (pc := 111) (v := (1 : Int32)) dX9_item_111 (by decide) ?_
      refine J_isub (pc := 112) dX9_item_112 ?_
      refine J_callVi (pc := 113) (t := 9) (as := [.int (((stm I27 89 6 ((I27 89 6) + (1 : Int32))) 89 6) - (1 : Int32))]) (st := []) (c_X9_byteAt hG hn (((stm I27 89 6 ((I27 89 6) + (1 : Int32))) 89 6) - (1 : Int32)) (stm I27 89 6 ((I27 89 6) + (1 : Int32)))) (ok_m hn 89 (by decide) rfl) (by decide) rfl (cw_RX9_68 rfl) wd_436 wd_435 rfl ⟨Nat.le_of_ble_eq_true rfl, Nat.le_of_ble_eq_true rfl, Nat.le_of_ble_eq_true rfl, Nat.le_of_ble_eq_true rfl⟩ (Nat.le_of_ble_eq_true rfl) rfl dX9_item_113 (fun r30 I29 => ?_)
      refine J_bipush (pc := 116) (v := (44 : Int32)) dX9_item_116 (by decide) ?_
      refine J_icmp_ne (pc := 118) (tgt := 138) dX9_item_118 (by decide) ?_ ?_
      · refine J_aload_n (pc := 121) (x := 89) dX9_item_121 rfl ?_
        refine J_iconst (pc := 122) (v := (4 : Int32)) dX9_item_122 (by decide) ?_
        refine J_iload_n (pc := 123) (x := r28) dX9_item_123 rfl ?_
        refine J_iadd (pc := 124) dX9_item_124 ?_
        refine J_iconst (pc := 125) (v := (0 : Int32)) dX9_item_125 (by decide) ?_
        refine J_bipush (pc := 126) (v := (99 : Int32)) dX9_item_126 (by decide) ?_
        refine J_callVi (pc := 128) (t := 9) (as := [.int ((4 : Int32) + r28), .int (0 : Int32), .int (99 : Int32)]) (st := []) (c_X9_tells hG hn ((4 : Int32) + r28) (0 : Int32) (99 : Int32) I29) (ok_m hn 89 (by decide) rfl) (by decide) rfl (cw_RX9_91 rfl) wd_446 wd_445 rfl ⟨Nat.le_of_ble_eq_true rfl, Nat.le_of_ble_eq_true rfl, Nat.le_of_ble_eq_true rfl, Nat.le_of_ble_eq_true rfl⟩ (Nat.le_of_ble_eq_true rfl) rfl dX9_item_128 (fun r32 I31 => ?_)
        refine J_if_eq (pc := 131) (tgt := 138) dX9_item_131 (by decide) ?_ ?_
        · refine J_iconst (pc := 138) (v := (0 : Int32)) dX9_item_138 (by decide) ?_
          exact J_zret (pc := 139) rfl dX9_item_139
        · refine J_iconst (pc := 134) (v := (1 : Int32)) dX9_item_134 (by decide) ?_
          refine J_goto (pc := 135) (tgt := 139) dX9_item_135 (by decide) ?_
          exact J_zret (pc := 139) rfl dX9_item_139
      · refine J_iconst (pc := 138) (v := (0 : Int32)) dX9_item_138 (by decide) ?_
        exact J_zret (pc := 139) rfl dX9_item_139
  refine J_tblOut (pc := 1) (tgt := 167) dX9_item_1 (by have e0 := ne_int hq1 (show ((99 : Int32)).toInt = 99 by decide); have e1 := ne_int hq5 (show ((100 : Int32)).toInt = 100 by decide); have e2 := ne_int hq6 (show ((101 : Int32)).toInt = 101 by decide); have e3 := ne_int hq7 (show ((102 : Int32)).toInt = 102 by decide); have e4 := ne_int hq8 (show ((103 : Int32)).toInt = 103 by decide); have e5 := ne_int hq9 (show ((104 : Int32)).toInt = 104 by decide); have e6 := ne_int hq10 (show ((105 : Int32)).toInt = 105 by decide); have e7 := ne_int hq11 (show ((106 : Int32)).toInt = 106 by decide); have e8 := ne_int hq12 (show ((107 : Int32)).toInt = 107 by decide); have e9 := ne_int hq16 (show ((108 : Int32)).toInt = 108 by decide); have e10 := ne_int hq17 (show ((109 : Int32)).toInt = 109 by decide); have e11 := ne_int hq21 (show ((110 : Int32)).toInt = 110 by decide); have e12 := ne_int hq25 (show ((111 : Int32)).toInt = 111 by decide); have e13 := ne_int hq26 (show ((112 : Int32)).toInt = 112 by decide); omega) (by decide) ?_
  refine J_iconst (pc := 167) (v := (0 : Int32)) dX9_item_167 (by decide) ?_
  exact J_zret (pc := 168) rfl dX9_item_168
abbrev mu_X9_fault (G : Gt) : Mt (Int32 × Mem) := mi G cX9_fault 2 yX9_fault.cls (some .int) 4 95
def b_X9_fault_2 (K41 : Mem → Option (Int32 × Mem)) (R : Int32 → Mem → Option (Int32 × Mem)) (x1 : Int32) (I : Mem) : Option (Int32 × Mem) :=
  (if (132 : Int32) ≤ x1 then K41 I else bI (f_X9_in ((x1).toInt64) (4 : Int64) (7 : Int64) I) fun r2 I1 => (if r2 = 0 then ck (inb x1 132) <| R (x1 + (1 : Int32)) (stm I1 93 (tn x1) (0 : Int32)) else ck (inb x1 132) <| R (x1 + (1 : Int32)) (stm I1 93 (tn x1) (10 : Int32))))
def l_X9_fault_2 (K41 : Mem → Option (Int32 × Mem)) : Nat → Int32 → Mem → Option (Int32 × Mem) := fx (b_X9_fault_2 K41) (fun _ _ => none)
def b_X9_fault_61 (K113 : Int32 → Mem → Option (Int32 × Mem)) (K128 : Mem → Option (Int32 × Mem)) (R : Mem → Option (Int32 × Mem)) (I : Mem) : Option (Int32 × Mem) :=
  (if (I 89 0) ≤ (I 89 6) then K128 I else ck (inb (I 89 6) 200) <| bI (f_X9_item ((stm I 89 6 ((I 89 6) + (1 : Int32))) 90 (tn (I 89 6))) (stm I 89 6 ((I 89 6) + (1 : Int32)))) fun r8 I7 => (if r8 = 0 then K113 (I 89 6) I7 else bI (f_X9_byteAt (I7 89 6) I7) fun r10 I9 => (if r10 = (59 : Int32) then R (stm I9 89 6 ((I9 89 6) + (1 : Int32))) else K113 (I 89 6) I9)))
def l_X9_fault_61 (K113 : Int32 → Mem → Option (Int32 × Mem)) (K128 : Mem → Option (Int32 × Mem)) : Nat → Mem → Option (Int32 × Mem) := fx (b_X9_fault_61 K113 K128) (fun _ => none)
def f_X9_fault (I : Mem) : Option (Int32 × Mem) :=
  l_X9_fault_2 (fun I5 => l_X9_fault_61 (fun (z11 : Int32) I12 => some (z11, I12)) (fun I13 => some ((-4 : Int32), I13)) fuel (stm (stm (stm I5 93 0 (16 : Int32)) 93 1 (2 : Int32)) 89 6 (0 : Int32))) fuel (0 : Int32) I
set_option maxRecDepth 100000 in
theorem tb_X9_fault_2 {G : Gt} (hG : Gok G) (hn : gn G = 104) {K41 : Mem → Option (Int32 × Mem)} (hK41 : ∀ (I : Mem), J G (mu_X9_fault G) 41 [some (.ref 89), none] [] I (K41 I)) {R : Int32 → Mem → Option (Int32 × Mem)} (hR : ∀ (x1 : Int32) (I : Mem), J G (mu_X9_fault G) 2 [some (.ref 89), some (.int x1)] [] I (R x1 I)) (x1 : Int32) (I : Mem) : J G (mu_X9_fault G) 2 [some (.ref 89), some (.int x1)] [] I (b_X9_fault_2 K41 R x1 I) := by
  unfold b_X9_fault_2
  refine J_iload_n (pc := 2) (x := x1) dX9_fault_2 rfl ?_
  refine J_sipush (pc := 3) (v := (132 : Int32)) dX9_fault_3 (by decide) ?_
  refine J_icmp_ge (pc := 6) (tgt := 41) dX9_fault_6 (by decide) ?_ ?_
  · refine J_weak (ls' := [some (.ref 89), none]) ⟨rfl, trivial⟩ ?_
    exact hK41 I
  · refine J_aload_n (pc := 9) (x := 89) dX9_fault_9 rfl ?_
    refine J_get (pc := 10) (t := 9) (k := 5) (.ref 93) (ok_m hn 89 (by decide) rfl) (by decide) rfl ingX9 (by decide) wd_431 rfl dX9_fault_10 ?_
    refine J_iload_n (pc := 13) (x := x1) dX9_fault_13 rfl ?_
    refine J_iload_n (pc := 14) (x := x1) dX9_fault_14 rfl ?_
    refine J_i2l (pc := 15) dX9_fault_15 ?_
    refine J_ldc2 (pc := 16) (v := (4 : Int64)) wd_432 dX9_fault_16 ?_
    refine J_ldc2 (pc := 19) (v := (7 : Int64)) wd_433 dX9_fault_19 ?_
    refine J_callSi (pc := 22) (as := [.long ((x1).toInt64), .long (4 : Int64), .long (7 : Int64)]) (st := [.int x1, .ref 93]) (c_X9_in hG hn ((x1).toInt64) (4 : Int64) (7 : Int64) I) (cw_RX9_57 rfl) wd_425 rfl ⟨Nat.le_of_ble_eq_true rfl, Nat.le_of_ble_eq_true rfl, Nat.le_of_ble_eq_true rfl, Nat.le_of_ble_eq_true rfl⟩ (Nat.le_of_ble_eq_true rfl) rfl dX9_fault_22 (fun r2 I1 => ?_)
    refine J_if_eq (pc := 25) (tgt := 33) dX9_fault_25 (by decide) ?_ ?_
    · refine J_iconst (pc := 33) (v := (0 : Int32)) dX9_fault_33 (by decide) ?_
      refine J_ck (fun hc3 => ?_)
      refine J_ist (pc := 34) (t := 33) (k := (tn x1)) (ok_m hn 93 (by decide) rfl) iT_33 (inb_in hc3) rfl dX9_fault_34 ?_
      refine J_iinc (pc := 35) (d := (1 : Int32)) (ls' := [some (.ref 89), some (.int (x1 + (1 : Int32)))]) dX9_fault_35 (by decide) rfl (Nat.le_of_ble_eq_true rfl) rfl rfl ?_
      refine J_goto (pc := 38) (tgt := 2) dX9_fault_38 (by decide) ?_
      exact hR (x1 + (1 : Int32)) (stm I1 93 (tn x1) (0 : Int32))
    · refine J_bipush (pc := 28) (v := (10 : Int32)) dX9_fault_28 (by decide) ?_
      refine J_goto (pc := 30) (tgt := 34) dX9_fault_30 (by decide) ?_
      refine J_ck (fun hc4 => ?_)
      refine J_ist (pc := 34) (t := 33) (k := (tn x1)) (ok_m hn 93 (by decide) rfl) iT_33 (inb_in hc4) rfl dX9_fault_34 ?_
      refine J_iinc (pc := 35) (d := (1 : Int32)) (ls' := [some (.ref 89), some (.int (x1 + (1 : Int32)))]) dX9_fault_35 (by decide) rfl (Nat.le_of_ble_eq_true rfl) rfl rfl ?_
      refine J_goto (pc := 38) (tgt := 2) dX9_fault_38 (by decide) ?_
      exact hR (x1 + (1 : Int32)) (stm I1 93 (tn x1) (10 : Int32))
theorem tl_X9_fault_2 {G : Gt} (hG : Gok G) (hn : gn G = 104) {K41 : Mem → Option (Int32 × Mem)} (hK41 : ∀ (I : Mem), J G (mu_X9_fault G) 41 [some (.ref 89), none] [] I (K41 I)) (n : Nat) : ∀ (x1 : Int32) (I : Mem), J G (mu_X9_fault G) 2 [some (.ref 89), some (.int x1)] [] I (l_X9_fault_2 K41 n x1 I) := by
  induction n with
  | zero => intro x1 I; exact J_none
  | succ n ih => intro x1 I; exact tb_X9_fault_2 hG hn hK41 ih x1 I
set_option maxRecDepth 100000 in
theorem tb_X9_fault_61 {G : Gt} (hG : Gok G) (hn : gn G = 104) {K113 : Int32 → Mem → Option (Int32 × Mem)} (hK113 : ∀ (x1 : Int32) (I : Mem), J G (mu_X9_fault G) 113 [none, some (.int x1)] [] I (K113 x1 I)) {K128 : Mem → Option (Int32 × Mem)} (hK128 : ∀ (I : Mem), J G (mu_X9_fault G) 128 [none, none] [] I (K128 I)) {R : Mem → Option (Int32 × Mem)} (hR : ∀ (I : Mem), J G (mu_X9_fault G) 61 [some (.ref 89), none] [] I (R I)) (I : Mem) : J G (mu_X9_fault G) 61 [some (.ref 89), none] [] I (b_X9_fault_61 K113 K128 R I) := by
  unfold b_X9_fault_61
  refine J_aload_n (pc := 61) (x := 89) dX9_fault_61 rfl ?_
  refine J_get (pc := 62) (t := 9) (k := 6) (.int (I 89 6)) (ok_m hn 89 (by decide) rfl) (by decide) rfl ingX9 (by decide) wd_434 rfl dX9_fault_62 ?_
  refine J_aload_n (pc := 65) (x := 89) dX9_fault_65 rfl ?_
  refine J_get (pc := 66) (t := 9) (k := 0) (.int (I 89 0)) (ok_m hn 89 (by decide) rfl) (by decide) rfl ingX9 (by decide) wd_429 rfl dX9_fault_66 ?_
  refine J_icmp_ge (pc := 69) (tgt := 128) dX9_fault_69 (by decide) ?_ ?_
  · refine J_weak (ls' := [none, none]) trivial ?_
    exact hK128 I
  · refine J_aload_n (pc := 72) (x := 89) dX9_fault_72 rfl ?_
    refine J_get (pc := 73) (t := 9) (k := 6) (.int (I 89 6)) (ok_m hn 89 (by decide) rfl) (by decide) rfl ingX9 (by decide) wd_434 rfl dX9_fault_73 ?_
    refine J_istore_n (pc := 76) (ls' := [some (.ref 89), some (.int (I 89 6))]) dX9_fault_76 (Nat.le_of_ble_eq_true rfl) rfl rfl ?_
    refine J_aload_n (pc := 77) (x := 89) dX9_fault_77 rfl ?_
    refine J_dupR (pc := 78) dX9_fault_78 ?_
    refine J_get (pc := 79) (t := 9) (k := 6) (.int (I 89 6)) (ok_m hn 89 (by decide) rfl) (by decide) rfl ingX9 (by decide) wd_434 rfl dX9_fault_79 ?_
    refine J_iconst (pc := 82) (v := (1 : Int32)) dX9_fault_82 (by decide) ?_
    refine J_iadd (pc := 83) dX9_fault_83 ?_
    refine J_put (pc := 84) (t := 9) (k := 6) (ok_m hn 89 (by decide) rfl) (by decide) rfl ingX9 tyX9 tyX9_ok nmX9 (by decide) wd_434 rfl pfI (Nat.le_of_ble_eq_true rfl) rfl dX9_fault_84 ?_
    refine J_aload_n (pc := 87) (x := 89) dX9_fault_87 rfl ?_
    refine J_aload_n (pc := 88) (x := 89) dX9_fault_88 rfl ?_
    refine J_get (pc := 89) (t := 9) (k := 1) (.ref 90) (ok_m hn 89 (by decide) rfl) (by decide) rfl ingX9 (by decide) wd_430 rfl dX9_fault_89 ?_
    refine J_iload_n (pc := 92) (x := (I 89 6)) dX9_fault_92 rfl ?_
    refine J_ck (fun hc6 => ?_)
    refine J_ild (pc := 93) (t := 30) (k := (tn (I 89 6))) (ok_m hn 90 (by decide) rfl) iT_30 (inb_in hc6) rfl dX9_fault_93 ?_
    refine J_callVi (pc := 94) (t := 9) (as := [.int ((stm I 89 6 ((I 89 6) + (1 : Int32))) 90 (tn (I 89 6)))]) (st := []) (c_X9_item hG hn ((stm I 89 6 ((I 89 6) + (1 : Int32))) 90 (tn (I 89 6))) (stm I 89 6 ((I 89 6) + (1 : Int32)))) (ok_m hn 89 (by decide) rfl) (by decide) rfl (cw_RX9_99 rfl) wd_460 wd_459 rfl ⟨Nat.le_of_ble_eq_true rfl, Nat.le_of_ble_eq_true rfl, Nat.le_of_ble_eq_true rfl, Nat.le_of_ble_eq_true rfl⟩ (Nat.le_of_ble_eq_true rfl) rfl dX9_fault_94 (fun r8 I7 => ?_)
    refine J_if_eq (pc := 97) (tgt := 113) dX9_fault_97 (by decide) ?_ ?_
    · refine J_weak (ls' := [none, some (.int (I 89 6))]) ⟨rfl, trivial⟩ ?_
      exact hK113 (I 89 6) I7
    · refine J_aload_n (pc := 100) (x := 89) dX9_fault_100 rfl ?_
      refine J_aload_n (pc := 101) (x := 89) dX9_fault_101 rfl ?_
      refine J_get (pc := 102) (t := 9) (k := 6) (.int (I7 89 6)) (ok_m hn 89 (by decide) rfl) (by decide) rfl ingX9 (by decide) wd_434 rfl dX9_fault_102 ?_
      refine J_callVi (pc := 105) (t := 9) (as := [.int (I7 89 6)]) (st := []) (c_X9_byteAt hG hn (I7 89 6) I7) (ok_m hn 89 (by decide) rfl) (by decide) rfl (cw_RX9_68 rfl) wd_436 wd_435 rfl ⟨Nat.le_of_ble_eq_true rfl, Nat.le_of_ble_eq_true rfl, Nat.le_of_ble_eq_true rfl, Nat.le_of_ble_eq_true rfl⟩ (Nat.le_of_ble_eq_true rfl) rfl dX9_fault_105 (fun r10 I9 => ?_)
      refine J_bipush (pc := 108) (v := (59 : Int32)) dX9_fault_108 (by decide) ?_
      refine J_icmp_eq (pc := 110) (tgt := 115) dX9_fault_110 (by decide) ?_ ?_
      · refine J_aload_n (pc := 115) (x := 89) dX9_fault_115 rfl ?_
        refine J_dupR (pc := 116) dX9_fault_116 ?_
        refine J_get (pc := 117) (t := 9) (k := 6) (.int (I9 89 6)) (ok_m hn 89 (by decide) rfl) (by decide) rfl ingX9 (by decide) wd_434 rfl dX9_fault_117 ?_
        refine J_iconst (pc := 120) (v := (1 : Int32)) dX9_fault_120 (by decide) ?_
        refine J_iadd (pc := 121) dX9_fault_121 ?_
        refine J_put (pc := 122) (t := 9) (k := 6) (ok_m hn 89 (by decide) rfl) (by decide) rfl ingX9 tyX9 tyX9_ok nmX9 (by decide) wd_434 rfl pfI (Nat.le_of_ble_eq_true rfl) rfl dX9_fault_122 ?_
        refine J_goto (pc := 125) (tgt := 61) dX9_fault_125 (by decide) ?_
        refine J_weak (ls' := [some (.ref 89), none]) ⟨rfl, trivial⟩ ?_
        exact hR (stm I9 89 6 ((I9 89 6) + (1 : Int32)))
      · refine J_weak (ls' := [none, some (.int (I 89 6))]) ⟨rfl, trivial⟩ ?_
        exact hK113 (I 89 6) I9
theorem tl_X9_fault_61 {G : Gt} (hG : Gok G) (hn : gn G = 104) {K113 : Int32 → Mem → Option (Int32 × Mem)} (hK113 : ∀ (x1 : Int32) (I : Mem), J G (mu_X9_fault G) 113 [none, some (.int x1)] [] I (K113 x1 I)) {K128 : Mem → Option (Int32 × Mem)} (hK128 : ∀ (I : Mem), J G (mu_X9_fault G) 128 [none, none] [] I (K128 I)) (n : Nat) : ∀ (I : Mem), J G (mu_X9_fault G) 61 [some (.ref 89), none] [] I (l_X9_fault_61 K113 K128 n I) := by
  induction n with
  | zero => intro I; exact J_none
  | succ n ih => intro I; exact tb_X9_fault_61 hG hn hK113 hK128 ih I
set_option maxRecDepth 100000 in
theorem c_X9_fault {G : Gt} (hG : Gok G) (hn : gn G = 104) (I : Mem) : Cti G yX9_fault cX9_fault 2 (some .int) 4 95 [.ref 89] I (f_X9_fault I) := by
  refine Cti.of (ls := [some (.ref 89), none]) 1 hG (by decide) rfl (Nat.le_of_ble_eq_true rfl) ?_
  unfold f_X9_fault
  refine J_iconst (pc := 0) (v := (0 : Int32)) dX9_fault_0 (by decide) ?_
  refine J_istore_n (pc := 1) (ls' := [some (.ref 89), some (.int (0 : Int32))]) dX9_fault_1 (Nat.le_of_ble_eq_true rfl) rfl rfl ?_
  refine tl_X9_fault_2 hG hn (fun I5 => ?_) fuel (0 : Int32) I
  · refine J_aload_n (pc := 41) (x := 89) dX9_fault_41 rfl ?_
    refine J_get (pc := 42) (t := 9) (k := 5) (.ref 93) (ok_m hn 89 (by decide) rfl) (by decide) rfl ingX9 (by decide) wd_431 rfl dX9_fault_42 ?_
    refine J_iconst (pc := 45) (v := (0 : Int32)) dX9_fault_45 (by decide) ?_
    refine J_bipush (pc := 46) (v := (16 : Int32)) dX9_fault_46 (by decide) ?_
    refine J_ist (pc := 48) (t := 33) (k := 0) (ok_m hn 93 (by decide) rfl) iT_33 (inb_in (by decide)) (by decide) dX9_fault_48 ?_
    refine J_aload_n (pc := 49) (x := 89) dX9_fault_49 rfl ?_
    refine J_get (pc := 50) (t := 9) (k := 5) (.ref 93) (ok_m hn 89 (by decide) rfl) (by decide) rfl ingX9 (by decide) wd_431 rfl dX9_fault_50 ?_
    refine J_iconst (pc := 53) (v := (1 : Int32)) dX9_fault_53 (by decide) ?_
    refine J_iconst (pc := 54) (v := (2 : Int32)) dX9_fault_54 (by decide) ?_
    refine J_ist (pc := 55) (t := 33) (k := 1) (ok_m hn 93 (by decide) rfl) iT_33 (inb_in (by decide)) (by decide) dX9_fault_55 ?_
    refine J_aload_n (pc := 56) (x := 89) dX9_fault_56 rfl ?_
    refine J_iconst (pc := 57) (v := (0 : Int32)) dX9_fault_57 (by decide) ?_
    refine J_put (pc := 58) (t := 9) (k := 6) (ok_m hn 89 (by decide) rfl) (by decide) rfl ingX9 tyX9 tyX9_ok nmX9 (by decide) wd_434 rfl pfI (Nat.le_of_ble_eq_true rfl) rfl dX9_fault_58 ?_
    refine tl_X9_fault_61 hG hn (fun z11 I12 => ?_) (fun I13 => ?_) fuel (stm (stm (stm I5 93 0 (16 : Int32)) 93 1 (2 : Int32)) 89 6 (0 : Int32))
    · refine J_iload_n (pc := 113) (x := z11) dX9_fault_113 rfl ?_
      exact J_iret (pc := 114) dX9_fault_114
    · refine J_bipush (pc := 128) (v := (-4 : Int32)) dX9_fault_128 (by decide) ?_
      exact J_iret (pc := 130) dX9_fault_130
abbrev mu_X9_lay (G : Gt) : Mt (Int32 × Mem) := mi G cX9_lay 2 yX9_lay.cls (some .int) 5 116
def b_X9_lay_23 (K48 : Mem → Option (Int32 × Mem)) (R : Int32 → Mem → Option (Int32 × Mem)) (x1 : Int32) (I : Mem) : Option (Int32 × Mem) :=
  (if (132 : Int32) ≤ x1 then K48 I else ck (inb x1 132) <| ck (inb x1 132) <| R (x1 + (1 : Int32)) (stm I 91 (tn x1) (I 93 (tn x1))))
def l_X9_lay_23 (K48 : Mem → Option (Int32 × Mem)) : Nat → Int32 → Mem → Option (Int32 × Mem) := fx (b_X9_lay_23 K48) (fun _ _ => none)
def f_X9_lay (I : Mem) : Option (Int32 × Mem) :=
  bI (f_X9_fault I) fun r2 I1 => (if r2 = (-4 : Int32) then (if (I1 93 3) = 0 then some ((-2 : Int32), I1) else l_X9_lay_23 (fun I5 => some (((stm I5 89 4 (0 : Int32)) 91 3), (stm I5 89 4 (0 : Int32)))) fuel (0 : Int32) I1) else some ((-2 : Int32), I1))
set_option maxRecDepth 100000 in
theorem tb_X9_lay_23 {G : Gt} (hG : Gok G) (hn : gn G = 104) {K48 : Mem → Option (Int32 × Mem)} (hK48 : ∀ (I : Mem), J G (mu_X9_lay G) 48 [some (.ref 89), none] [] I (K48 I)) {R : Int32 → Mem → Option (Int32 × Mem)} (hR : ∀ (x1 : Int32) (I : Mem), J G (mu_X9_lay G) 23 [some (.ref 89), some (.int x1)] [] I (R x1 I)) (x1 : Int32) (I : Mem) : J G (mu_X9_lay G) 23 [some (.ref 89), some (.int x1)] [] I (b_X9_lay_23 K48 R x1 I) := by
  unfold b_X9_lay_23
  refine J_iload_n (pc := 23) (x := x1) dX9_lay_23 rfl ?_
  refine J_sipush (pc := 24) (v := (132 : Int32)) dX9_lay_24 (by decide) ?_
  refine J_icmp_ge (pc := 27) (tgt := 48) dX9_lay_27 (by decide) ?_ ?_
  · refine J_weak (ls' := [some (.ref 89), none]) ⟨rfl, trivial⟩ ?_
    exact hK48 I
  · refine J_aload_n (pc := 30) (x := 89) dX9_lay_30 rfl ?_
    refine J_get (pc := 31) (t := 9) (k := 2) (.ref 91) (ok_m hn 89 (by decide) rfl) (by decide) rfl ingX9 (by decide) wd_467 rfl dX9_lay_31 ?_
    refine J_iload_n (pc := 34) (x := x1) dX9_lay_34 rfl ?_
    refine J_aload_n (pc := 35) (x := 89) dX9_lay_35 rfl ?_
    refine J_get (pc := 36) (t := 9) (k := 5) (.ref 93) (ok_m hn 89 (by decide) rfl) (by decide) rfl ingX9 (by decide) wd_431 rfl dX9_lay_36 ?_
    refine J_iload_n (pc := 39) (x := x1) dX9_lay_39 rfl ?_
    refine J_ck (fun hc3 => ?_)
    refine J_ild (pc := 40) (t := 33) (k := (tn x1)) (ok_m hn 93 (by decide) rfl) iT_33 (inb_in hc3) rfl dX9_lay_40 ?_
    refine J_ck (fun hc4 => ?_)
    refine J_ist (pc := 41) (t := 31) (k := (tn x1)) (ok_m hn 91 (by decide) rfl) iT_31 (inb_in hc4) rfl dX9_lay_41 ?_
    refine J_iinc (pc := 42) (d := (1 : Int32)) (ls' := [some (.ref 89), some (.int (x1 + (1 : Int32)))]) dX9_lay_42 (by decide) rfl (Nat.le_of_ble_eq_true rfl) rfl rfl ?_
    refine J_goto (pc := 45) (tgt := 23) dX9_lay_45 (by decide) ?_
    exact hR (x1 + (1 : Int32)) (stm I 91 (tn x1) (I 93 (tn x1)))
theorem tl_X9_lay_23 {G : Gt} (hG : Gok G) (hn : gn G = 104) {K48 : Mem → Option (Int32 × Mem)} (hK48 : ∀ (I : Mem), J G (mu_X9_lay G) 48 [some (.ref 89), none] [] I (K48 I)) (n : Nat) : ∀ (x1 : Int32) (I : Mem), J G (mu_X9_lay G) 23 [some (.ref 89), some (.int x1)] [] I (l_X9_lay_23 K48 n x1 I) := by
  induction n with
  | zero => intro x1 I; exact J_none
  | succ n ih => intro x1 I; exact tb_X9_lay_23 hG hn hK48 ih x1 I
set_option maxRecDepth 100000 in
theorem c_X9_lay {G : Gt} (hG : Gok G) (hn : gn G = 104) (I : Mem) : Cti G yX9_lay cX9_lay 2 (some .int) 5 116 [.ref 89] I (f_X9_lay I) := by
  refine Cti.of (ls := [some (.ref 89), none]) 1 hG (by decide) rfl (Nat.le_of_ble_eq_true rfl) ?_
  unfold f_X9_lay
  refine J_aload_n (pc := 0) (x := 89) dX9_lay_0 rfl ?_
  refine J_callVi (pc := 1) (t := 9) (as := []) (st := []) (c_X9_fault hG hn I) (ok_m hn 89 (by decide) rfl) (by decide) rfl (cw_RX9_102 rfl) wd_464 wd_463 rfl ⟨Nat.le_of_ble_eq_true rfl, Nat.le_of_ble_eq_true rfl, Nat.le_of_ble_eq_true rfl, Nat.le_of_ble_eq_true rfl⟩ (Nat.le_of_ble_eq_true rfl) rfl dX9_lay_1 (fun r2 I1 => ?_)
  refine J_bipush (pc := 4) (v := (-4 : Int32)) dX9_lay_4 (by decide) ?_
  refine J_icmp_ne (pc := 6) (tgt := 18) dX9_lay_6 (by decide) ?_ ?_
  · refine J_aload_n (pc := 9) (x := 89) dX9_lay_9 rfl ?_
    refine J_get (pc := 10) (t := 9) (k := 5) (.ref 93) (ok_m hn 89 (by decide) rfl) (by decide) rfl ingX9 (by decide) wd_431 rfl dX9_lay_10 ?_
    refine J_iconst (pc := 13) (v := (3 : Int32)) dX9_lay_13 (by decide) ?_
    refine J_ild (pc := 14) (t := 33) (k := 3) (ok_m hn 93 (by decide) rfl) iT_33 (inb_in (by decide)) (by decide) dX9_lay_14 ?_
    refine J_if_ne (pc := 15) (tgt := 21) dX9_lay_15 (by decide) ?_ ?_
    · refine J_bipush (pc := 18) (v := (-2 : Int32)) dX9_lay_18 (by decide) ?_
      exact J_iret (pc := 20) dX9_lay_20
    · refine J_iconst (pc := 21) (v := (0 : Int32)) dX9_lay_21 (by decide) ?_
      refine J_istore_n (pc := 22) (ls' := [some (.ref 89), some (.int (0 : Int32))]) dX9_lay_22 (Nat.le_of_ble_eq_true rfl) rfl rfl ?_
      refine tl_X9_lay_23 hG hn (fun I5 => ?_) fuel (0 : Int32) I1
      · refine J_aload_n (pc := 48) (x := 89) dX9_lay_48 rfl ?_
        refine J_iconst (pc := 49) (v := (0 : Int32)) dX9_lay_49 (by decide) ?_
        refine J_put (pc := 50) (t := 9) (k := 4) (ok_m hn 89 (by decide) rfl) (by decide) rfl ingX9 tyX9 tyX9_ok nmX9 (by decide) wd_468 rfl pfI (Nat.le_of_ble_eq_true rfl) rfl dX9_lay_50 ?_
        refine J_aload_n (pc := 53) (x := 89) dX9_lay_53 rfl ?_
        refine J_get (pc := 54) (t := 9) (k := 2) (.ref 91) (ok_m hn 89 (by decide) rfl) (by decide) rfl ingX9 (by decide) wd_467 rfl dX9_lay_54 ?_
        refine J_iconst (pc := 57) (v := (3 : Int32)) dX9_lay_57 (by decide) ?_
        refine J_ild (pc := 58) (t := 31) (k := 3) (ok_m hn 91 (by decide) rfl) iT_31 (inb_in (by decide)) (by decide) dX9_lay_58 ?_
        exact J_iret (pc := 59) dX9_lay_59
  · refine J_bipush (pc := 18) (v := (-2 : Int32)) dX9_lay_18 (by decide) ?_
    exact J_iret (pc := 20) dX9_lay_20
abbrev mu_X9_note (G : Gt) : Mt Mem := mv G cX9_note 2 yX9_note.cls 0 0
def b_X9_note_11 (K40 : Mem → Option Mem) (R : Int32 → Mem → Option Mem) (x1 : Int32) (I : Mem) : Option Mem :=
  (if (660 : Int32) ≤ x1 then K40 I else ck (inb ((132 : Int32) + x1) 792) <| ck (inb x1 792) <| R (x1 + (1 : Int32)) (stm I 92 (tn x1) (I 92 (tn ((132 : Int32) + x1)))))
def l_X9_note_11 (K40 : Mem → Option Mem) : Nat → Int32 → Mem → Option Mem := fx (b_X9_note_11 K40) (fun _ _ => none)
def b_X9_note_52 (K86 : Mem → Option Mem) (R : Int32 → Mem → Option Mem) (x1 : Int32) (I : Mem) : Option Mem :=
  (if (132 : Int32) ≤ x1 then K86 I else ck (inb x1 132) <| ck (inb (((132 : Int32) * (I 89 4)) + x1) 792) <| R (x1 + (1 : Int32)) (stm I 92 (tn (((132 : Int32) * (I 89 4)) + x1)) (I 91 (tn x1))))
def l_X9_note_52 (K86 : Mem → Option Mem) : Nat → Int32 → Mem → Option Mem := fx (b_X9_note_52 K86) (fun _ _ => none)
def f_X9_note (I : Mem) : Option Mem :=
  (if (I 89 4) = (6 : Int32) then l_X9_note_11 (fun I3 => l_X9_note_52 (fun I6 => some (stm I6 89 4 ((I6 89 4) + (1 : Int32)))) fuel (0 : Int32) (stm I3 89 4 ((I3 89 4) - (1 : Int32)))) fuel (0 : Int32) I else l_X9_note_52 (fun I7 => some (stm I7 89 4 ((I7 89 4) + (1 : Int32)))) fuel (0 : Int32) I)
set_option maxRecDepth 100000 in
theorem tb_X9_note_11 {G : Gt} (hG : Gok G) (hn : gn G = 104) {K40 : Mem → Option Mem} (hK40 : ∀ (I : Mem), J G (mu_X9_note G) 40 [some (.ref 89), none] [] I (K40 I)) {R : Int32 → Mem → Option Mem} (hR : ∀ (x1 : Int32) (I : Mem), J G (mu_X9_note G) 11 [some (.ref 89), some (.int x1)] [] I (R x1 I)) (x1 : Int32) (I : Mem) : J G (mu_X9_note G) 11 [some (.ref 89), some (.int x1)] [] I (b_X9_note_11 K40 R x1 I) := by
  unfold b_X9_note_11
  refine J_iload_n (pc := 11) (x := x1) dX9_note_11 rfl ?_
  refine J_sipush (pc := 12) (v := (660 : Int32)) dX9_note_12 (by decide) ?_
  refine J_icmp_ge (pc := 15) (tgt := 40) dX9_note_15 (by decide) ?_ ?_
  · refine J_weak (ls' := [some (.ref 89), none]) ⟨rfl, trivial⟩ ?_
    exact hK40 I
  · refine J_aload_n (pc := 18) (x := 89) dX9_note_18 rfl ?_
    refine J_get (pc := 19) (t := 9) (k := 3) (.ref 92) (ok_m hn 89 (by decide) rfl) (by decide) rfl ingX9 (by decide) wd_470 rfl dX9_note_19 ?_
    refine J_iload_n (pc := 22) (x := x1) dX9_note_22 rfl ?_
    refine J_aload_n (pc := 23) (x := 89) dX9_note_23 rfl ?_
    refine J_get (pc := 24) (t := 9) (k := 3) (.ref 92) (ok_m hn 89 (by decide) rfl) (by decide) rfl ingX9 (by decide) wd_470 rfl dX9_note_24 ?_
    refine J_sipush (pc := 27) (v := (132 : Int32)) dX9_note_27 (by decide) ?_
    refine J_iload_n (pc := 30) (x := x1) dX9_note_30 rfl ?_
    refine J_iadd (pc := 31) dX9_note_31 ?_
    refine J_ck (fun hc1 => ?_)
    refine J_ild (pc := 32) (t := 32) (k := (tn ((132 : Int32) + x1))) (ok_m hn 92 (by decide) rfl) iT_32 (inb_in hc1) rfl dX9_note_32 ?_
    refine J_ck (fun hc2 => ?_)
    refine J_ist (pc := 33) (t := 32) (k := (tn x1)) (ok_m hn 92 (by decide) rfl) iT_32 (inb_in hc2) rfl dX9_note_33 ?_
    refine J_iinc (pc := 34) (d := (1 : Int32)) (ls' := [some (.ref 89), some (.int (x1 + (1 : Int32)))]) dX9_note_34 (by decide) rfl (Nat.le_of_ble_eq_true rfl) rfl rfl ?_
    refine J_goto (pc := 37) (tgt := 11) dX9_note_37 (by decide) ?_
    exact hR (x1 + (1 : Int32)) (stm I 92 (tn x1) (I 92 (tn ((132 : Int32) + x1))))
theorem tl_X9_note_11 {G : Gt} (hG : Gok G) (hn : gn G = 104) {K40 : Mem → Option Mem} (hK40 : ∀ (I : Mem), J G (mu_X9_note G) 40 [some (.ref 89), none] [] I (K40 I)) (n : Nat) : ∀ (x1 : Int32) (I : Mem), J G (mu_X9_note G) 11 [some (.ref 89), some (.int x1)] [] I (l_X9_note_11 K40 n x1 I) := by
  induction n with
  | zero => intro x1 I; exact J_none
  | succ n ih => intro x1 I; exact tb_X9_note_11 hG hn hK40 ih x1 I
set_option maxRecDepth 100000 in
theorem tb_X9_note_52 {G : Gt} (hG : Gok G) (hn : gn G = 104) {K86 : Mem → Option Mem} (hK86 : ∀ (I : Mem), J G (mu_X9_note G) 86 [some (.ref 89), none] [] I (K86 I)) {R : Int32 → Mem → Option Mem} (hR : ∀ (x1 : Int32) (I : Mem), J G (mu_X9_note G) 52 [some (.ref 89), some (.int x1)] [] I (R x1 I)) (x1 : Int32) (I : Mem) : J G (mu_X9_note G) 52 [some (.ref 89), some (.int x1)] [] I (b_X9_note_52 K86 R x1 I) := by
  unfold b_X9_note_52
  refine J_iload_n (pc := 52) (x := x1) dX9_note_52 rfl ?_
  refine J_sipush (pc := 53) (v := (132 : Int32)) dX9_note_53 (by decide) ?_
  refine J_icmp_ge (pc := 56) (tgt := 86) dX9_note_56 (by decide) ?_ ?_
  · refine J_weak (ls' := [some (.ref 89), none]) ⟨rfl, trivial⟩ ?_
    exact hK86 I
  · refine J_aload_n (pc := 59) (x := 89) dX9_note_59 rfl ?_
    refine J_get (pc := 60) (t := 9) (k := 3) (.ref 92) (ok_m hn 89 (by decide) rfl) (by decide) rfl ingX9 (by decide) wd_470 rfl dX9_note_60 ?_
    refine J_sipush (pc := 63) (v := (132 : Int32)) dX9_note_63 (by decide) ?_
    refine J_aload_n (pc := 66) (x := 89) dX9_note_66 rfl ?_
    refine J_get (pc := 67) (t := 9) (k := 4) (.int (I 89 4)) (ok_m hn 89 (by decide) rfl) (by decide) rfl ingX9 (by decide) wd_468 rfl dX9_note_67 ?_
    refine J_imul (pc := 70) dX9_note_70 ?_
    refine J_iload_n (pc := 71) (x := x1) dX9_note_71 rfl ?_
    refine J_iadd (pc := 72) dX9_note_72 ?_
    refine J_aload_n (pc := 73) (x := 89) dX9_note_73 rfl ?_
    refine J_get (pc := 74) (t := 9) (k := 2) (.ref 91) (ok_m hn 89 (by decide) rfl) (by decide) rfl ingX9 (by decide) wd_467 rfl dX9_note_74 ?_
    refine J_iload_n (pc := 77) (x := x1) dX9_note_77 rfl ?_
    refine J_ck (fun hc4 => ?_)
    refine J_ild (pc := 78) (t := 31) (k := (tn x1)) (ok_m hn 91 (by decide) rfl) iT_31 (inb_in hc4) rfl dX9_note_78 ?_
    refine J_ck (fun hc5 => ?_)
    refine J_ist (pc := 79) (t := 32) (k := (tn (((132 : Int32) * (I 89 4)) + x1))) (ok_m hn 92 (by decide) rfl) iT_32 (inb_in hc5) rfl dX9_note_79 ?_
    refine J_iinc (pc := 80) (d := (1 : Int32)) (ls' := [some (.ref 89), some (.int (x1 + (1 : Int32)))]) dX9_note_80 (by decide) rfl (Nat.le_of_ble_eq_true rfl) rfl rfl ?_
    refine J_goto (pc := 83) (tgt := 52) dX9_note_83 (by decide) ?_
    exact hR (x1 + (1 : Int32)) (stm I 92 (tn (((132 : Int32) * (I 89 4)) + x1)) (I 91 (tn x1)))
theorem tl_X9_note_52 {G : Gt} (hG : Gok G) (hn : gn G = 104) {K86 : Mem → Option Mem} (hK86 : ∀ (I : Mem), J G (mu_X9_note G) 86 [some (.ref 89), none] [] I (K86 I)) (n : Nat) : ∀ (x1 : Int32) (I : Mem), J G (mu_X9_note G) 52 [some (.ref 89), some (.int x1)] [] I (l_X9_note_52 K86 n x1 I) := by
  induction n with
  | zero => intro x1 I; exact J_none
  | succ n ih => intro x1 I; exact tb_X9_note_52 hG hn hK86 ih x1 I
set_option maxRecDepth 100000 in
theorem c_X9_note {G : Gt} (hG : Gok G) (hn : gn G = 104) (I : Mem) : Ctv G yX9_note cX9_note 2 0 0 [.ref 89] I (f_X9_note I) := by
  refine Ctv.of (ls := [some (.ref 89), none]) 1 hG (by decide) rfl (Nat.le_of_ble_eq_true rfl) ?_
  unfold f_X9_note
  refine J_aload_n (pc := 0) (x := 89) dX9_note_0 rfl ?_
  refine J_get (pc := 1) (t := 9) (k := 4) (.int (I 89 4)) (ok_m hn 89 (by decide) rfl) (by decide) rfl ingX9 (by decide) wd_468 rfl dX9_note_1 ?_
  refine J_bipush (pc := 4) (v := (6 : Int32)) dX9_note_4 (by decide) ?_
  refine J_icmp_ne (pc := 6) (tgt := 50) dX9_note_6 (by decide) ?_ ?_
  · refine J_iconst (pc := 9) (v := (0 : Int32)) dX9_note_9 (by decide) ?_
    refine J_istore_n (pc := 10) (ls' := [some (.ref 89), some (.int (0 : Int32))]) dX9_note_10 (Nat.le_of_ble_eq_true rfl) rfl rfl ?_
    refine tl_X9_note_11 hG hn (fun I3 => ?_) fuel (0 : Int32) I
    · refine J_aload_n (pc := 40) (x := 89) dX9_note_40 rfl ?_
      refine J_dupR (pc := 41) dX9_note_41 ?_
      refine J_get (pc := 42) (t := 9) (k := 4) (.int (I3 89 4)) (ok_m hn 89 (by decide) rfl) (by decide) rfl ingX9 (by decide) wd_468 rfl dX9_note_42 ?_
      refine J_iconst (pc := 45) (v := (1 : Int32)) dX9_note_45 (by decide) ?_
      refine J_isub (pc := 46) dX9_note_46 ?_
      refine J_put (pc := 47) (t := 9) (k := 4) (ok_m hn 89 (by decide) rfl) (by decide) rfl ingX9 tyX9 tyX9_ok nmX9 (by decide) wd_468 rfl pfI (Nat.le_of_ble_eq_true rfl) rfl dX9_note_47 ?_
      refine J_iconst (pc := 50) (v := (0 : Int32)) dX9_note_50 (by decide) ?_
      refine J_istore_n (pc := 51) (ls' := [some (.ref 89), some (.int (0 : Int32))]) dX9_note_51 (Nat.le_of_ble_eq_true rfl) rfl rfl ?_
      refine tl_X9_note_52 hG hn (fun I6 => ?_) fuel (0 : Int32) (stm I3 89 4 ((I3 89 4) - (1 : Int32)))
      · refine J_aload_n (pc := 86) (x := 89) dX9_note_86 rfl ?_
        refine J_dupR (pc := 87) dX9_note_87 ?_
        refine J_get (pc := 88) (t := 9) (k := 4) (.int (I6 89 4)) (ok_m hn 89 (by decide) rfl) (by decide) rfl ingX9 (by decide) wd_468 rfl dX9_note_88 ?_
        refine J_iconst (pc := 91) (v := (1 : Int32)) dX9_note_91 (by decide) ?_
        refine J_iadd (pc := 92) dX9_note_92 ?_
        refine J_put (pc := 93) (t := 9) (k := 4) (ok_m hn 89 (by decide) rfl) (by decide) rfl ingX9 tyX9 tyX9_ok nmX9 (by decide) wd_468 rfl pfI (Nat.le_of_ble_eq_true rfl) rfl dX9_note_93 ?_
        exact J_vret (pc := 96) dX9_note_96
  · refine J_iconst (pc := 50) (v := (0 : Int32)) dX9_note_50 (by decide) ?_
    refine J_istore_n (pc := 51) (ls' := [some (.ref 89), some (.int (0 : Int32))]) dX9_note_51 (Nat.le_of_ble_eq_true rfl) rfl rfl ?_
    refine tl_X9_note_52 hG hn (fun I7 => ?_) fuel (0 : Int32) I
    · refine J_aload_n (pc := 86) (x := 89) dX9_note_86 rfl ?_
      refine J_dupR (pc := 87) dX9_note_87 ?_
      refine J_get (pc := 88) (t := 9) (k := 4) (.int (I7 89 4)) (ok_m hn 89 (by decide) rfl) (by decide) rfl ingX9 (by decide) wd_468 rfl dX9_note_88 ?_
      refine J_iconst (pc := 91) (v := (1 : Int32)) dX9_note_91 (by decide) ?_
      refine J_iadd (pc := 92) dX9_note_92 ?_
      refine J_put (pc := 93) (t := 9) (k := 4) (ok_m hn 89 (by decide) rfl) (by decide) rfl ingX9 tyX9 tyX9_ok nmX9 (by decide) wd_468 rfl pfI (Nat.le_of_ble_eq_true rfl) rfl dX9_note_93 ?_
      exact J_vret (pc := 96) dX9_note_96
abbrev mu_X9_wholes (G : Gt) : Mt Mem := mv G cX9_wholes 2 yX9_wholes.cls 0 0
def b_X9_wholes_2 (K24 : Mem → Option Mem) (R : Int32 → Mem → Option Mem) (x1 : Int32) (I : Mem) : Option Mem :=
  (if (104 : Int32) ≤ x1 then K24 I else ck (inb ((28 : Int32) + x1) 132) <| R (x1 + (1 : Int32)) (stm I 91 (tn ((28 : Int32) + x1)) (0 : Int32)))
def l_X9_wholes_2 (K24 : Mem → Option Mem) : Nat → Int32 → Mem → Option Mem := fx (b_X9_wholes_2 K24) (fun _ _ => none)
def f_X9_wholes (I : Mem) : Option Mem :=
  l_X9_wholes_2 (fun I2 => some I2) fuel (0 : Int32) I
set_option maxRecDepth 100000 in
theorem tb_X9_wholes_2 {G : Gt} (hG : Gok G) (hn : gn G = 104) {K24 : Mem → Option Mem} (hK24 : ∀ (I : Mem), J G (mu_X9_wholes G) 24 [none, none] [] I (K24 I)) {R : Int32 → Mem → Option Mem} (hR : ∀ (x1 : Int32) (I : Mem), J G (mu_X9_wholes G) 2 [some (.ref 89), some (.int x1)] [] I (R x1 I)) (x1 : Int32) (I : Mem) : J G (mu_X9_wholes G) 2 [some (.ref 89), some (.int x1)] [] I (b_X9_wholes_2 K24 R x1 I) := by
  unfold b_X9_wholes_2
  refine J_iload_n (pc := 2) (x := x1) dX9_wholes_2 rfl ?_
  refine J_bipush (pc := 3) (v := (104 : Int32)) dX9_wholes_3 (by decide) ?_
  refine J_icmp_ge (pc := 5) (tgt := 24) dX9_wholes_5 (by decide) ?_ ?_
  · refine J_weak (ls' := [none, none]) trivial ?_
    exact hK24 I
  · refine J_aload_n (pc := 8) (x := 89) dX9_wholes_8 rfl ?_
    refine J_get (pc := 9) (t := 9) (k := 2) (.ref 91) (ok_m hn 89 (by decide) rfl) (by decide) rfl ingX9 (by decide) wd_467 rfl dX9_wholes_9 ?_
    refine J_bipush (pc := 12) (v := (28 : Int32)) dX9_wholes_12 (by decide) ?_
    refine J_iload_n (pc := 14) (x := x1) dX9_wholes_14 rfl ?_
    refine J_iadd (pc := 15) dX9_wholes_15 ?_
    refine J_iconst (pc := 16) (v := (0 : Int32)) dX9_wholes_16 (by decide) ?_
    refine J_ck (fun hc1 => ?_)
    refine J_ist (pc := 17) (t := 31) (k := (tn ((28 : Int32) + x1))) (ok_m hn 91 (by decide) rfl) iT_31 (inb_in hc1) rfl dX9_wholes_17 ?_
    refine J_iinc (pc := 18) (d := (1 : Int32)) (ls' := [some (.ref 89), some (.int (x1 + (1 : Int32)))]) dX9_wholes_18 (by decide) rfl (Nat.le_of_ble_eq_true rfl) rfl rfl ?_
    refine J_goto (pc := 21) (tgt := 2) dX9_wholes_21 (by decide) ?_
    exact hR (x1 + (1 : Int32)) (stm I 91 (tn ((28 : Int32) + x1)) (0 : Int32))
theorem tl_X9_wholes_2 {G : Gt} (hG : Gok G) (hn : gn G = 104) {K24 : Mem → Option Mem} (hK24 : ∀ (I : Mem), J G (mu_X9_wholes G) 24 [none, none] [] I (K24 I)) (n : Nat) : ∀ (x1 : Int32) (I : Mem), J G (mu_X9_wholes G) 2 [some (.ref 89), some (.int x1)] [] I (l_X9_wholes_2 K24 n x1 I) := by
  induction n with
  | zero => intro x1 I; exact J_none
  | succ n ih => intro x1 I; exact tb_X9_wholes_2 hG hn hK24 ih x1 I
set_option maxRecDepth 100000 in
theorem c_X9_wholes {G : Gt} (hG : Gok G) (hn : gn G = 104) (I : Mem) : Ctv G yX9_wholes cX9_wholes 2 0 0 [.ref 89] I (f_X9_wholes I) := by
  refine Ctv.of (ls := [some (.ref 89), none]) 1 hG (by decide) rfl (Nat.le_of_ble_eq_true rfl) ?_
  unfold f_X9_wholes
  refine J_iconst (pc := 0) (v := (0 : Int32)) dX9_wholes_0 (by decide) ?_
  refine J_istore_n (pc := 1) (ls' := [some (.ref 89), some (.int (0 : Int32))]) dX9_wholes_1 (Nat.le_of_ble_eq_true rfl) rfl rfl ?_
  refine tl_X9_wholes_2 hG hn (fun I2 => ?_) fuel (0 : Int32) I
  · exact J_vret (pc := 24) dX9_wholes_24
abbrev mu_X9_becomes (G : Gt) : Mt (Int32 × Mem) := mi G cX9_becomes 4 yX9_becomes.cls (some .int) 1 21
def f_X9_becomes (x1 : Int32) (x2 : Int32) (I : Mem) : Option (Int32 × Mem) :=
  ck (inb x1 132) <| (if (I 91 (tn x1)) = x2 then some ((-2 : Int32), I) else bV (f_X9_note I) fun I2 => ck (inb x1 132) <| bV (f_X9_wholes (stm I2 91 (tn x1) x2)) fun I4 => some ((I 91 (tn x1)), I4))
set_option maxRecDepth 100000 in
theorem c_X9_becomes {G : Gt} (hG : Gok G) (hn : gn G = 104) (x1 : Int32) (x2 : Int32) (I : Mem) : Cti G yX9_becomes cX9_becomes 4 (some .int) 1 21 [.ref 89, .int x1, .int x2] I (f_X9_becomes x1 x2 I) := by
  refine Cti.of (ls := [some (.ref 89), some (.int x1), some (.int x2), none]) 1 hG (by decide) rfl (Nat.le_of_ble_eq_true rfl) ?_
  unfold f_X9_becomes
  refine J_aload_n (pc := 0) (x := 89) dX9_becomes_0 rfl ?_
  refine J_get (pc := 1) (t := 9) (k := 2) (.ref 91) (ok_m hn 89 (by decide) rfl) (by decide) rfl ingX9 (by decide) wd_467 rfl dX9_becomes_1 ?_
  refine J_iload_n (pc := 4) (x := x1) dX9_becomes_4 rfl ?_
  refine J_ck (fun hc1 => ?_)
  refine J_ild (pc := 5) (t := 31) (k := (tn x1)) (ok_m hn 91 (by decide) rfl) iT_31 (inb_in hc1) rfl dX9_becomes_5 ?_
  refine J_istore_n (pc := 6) (ls' := [some (.ref 89), some (.int x1), some (.int x2), some (.int (I 91 (tn x1)))]) dX9_becomes_6 (Nat.le_of_ble_eq_true rfl) rfl rfl ?_
  refine J_iload_n (pc := 7) (x := (I 91 (tn x1))) dX9_becomes_7 rfl ?_
  refine J_iload_n (pc := 8) (x := x2) dX9_becomes_8 rfl ?_
  refine J_icmp_ne (pc := 9) (tgt := 15) dX9_becomes_9 (by decide) ?_ ?_
  · refine J_bipush (pc := 12) (v := (-2 : Int32)) dX9_becomes_12 (by decide) ?_
    exact J_iret (pc := 14) dX9_becomes_14
  · refine J_aload_n (pc := 15) (x := 89) dX9_becomes_15 rfl ?_
    refine J_callVv (pc := 16) (t := 9) (as := []) (st := []) (c_X9_note hG hn I) (ok_m hn 89 (by decide) rfl) (by decide) rfl (cw_RX9_109 rfl) wd_472 wd_471 rfl ⟨Nat.le_of_ble_eq_true rfl, Nat.le_of_ble_eq_true rfl, Nat.le_of_ble_eq_true rfl, Nat.le_of_ble_eq_true rfl⟩ (Nat.le_of_ble_eq_true rfl) rfl dX9_becomes_16 (fun I2 => ?_)
    refine J_aload_n (pc := 19) (x := 89) dX9_becomes_19 rfl ?_
    refine J_get (pc := 20) (t := 9) (k := 2) (.ref 91) (ok_m hn 89 (by decide) rfl) (by decide) rfl ingX9 (by decide) wd_467 rfl dX9_becomes_20 ?_
    refine J_iload_n (pc := 23) (x := x1) dX9_becomes_23 rfl ?_
    refine J_iload_n (pc := 24) (x := x2) dX9_becomes_24 rfl ?_
    refine J_ck (fun hc3 => ?_)
    refine J_ist (pc := 25) (t := 31) (k := (tn x1)) (ok_m hn 91 (by decide) rfl) iT_31 (inb_in hc3) rfl dX9_becomes_25 ?_
    refine J_aload_n (pc := 26) (x := 89) dX9_becomes_26 rfl ?_
    refine J_callVv (pc := 27) (t := 9) (as := []) (st := []) (c_X9_wholes hG hn (stm I2 91 (tn x1) x2)) (ok_m hn 89 (by decide) rfl) (by decide) rfl (cw_RX9_112 rfl) wd_476 wd_475 rfl ⟨Nat.le_of_ble_eq_true rfl, Nat.le_of_ble_eq_true rfl, Nat.le_of_ble_eq_true rfl, Nat.le_of_ble_eq_true rfl⟩ (Nat.le_of_ble_eq_true rfl) rfl dX9_becomes_27 (fun I4 => ?_)
    refine J_iload_n (pc := 30) (x := (I 91 (tn x1))) dX9_becomes_30 rfl ?_
    exact J_iret (pc := 31) dX9_becomes_31
abbrev mu_X9_tell (G : Gt) : Mt (Int32 × Mem) := mi G cX9_tell 4 yX9_tell.cls (some .int) 2 44
def j_X9_tell_53 (x1 : Int32) (x2 : Int32) (y0 : Int32) (I : Mem) : Option (Int32 × Mem) :=
  (if y0 = 0 then some ((-1 : Int32), I) else (if x1 = 0 then bI (f_X9_becomes (0 : Int32) x2 I) fun r4 I3 => some (r4, I3) else (if x1 = (1 : Int32) then bI (f_X9_becomes (1 : Int32) x2 I) fun r6 I5 => some (r6, I5) else bI (f_X9_becomes (2 : Int32) x2 I) fun r8 I7 => some (r8, I7))))
def f_X9_tell (x1 : Int32) (x2 : Int32) (I : Mem) : Option (Int32 × Mem) :=
  (if x1 = 0 then bI (f_X9_in ((x2).toInt64) (1 : Int64) (400 : Int64) I) fun r2 I1 => j_X9_tell_53 x1 x2 r2 I1 else (if x1 = (1 : Int32) then bI (f_X9_in ((x2).toInt64) (0 : Int64) (20 : Int64) I) fun r10 I9 => j_X9_tell_53 x1 x2 r10 I9 else (if x1 = (2 : Int32) then bI (f_X9_in ((x2).toInt64) (0 : Int64) (1 : Int64) I) fun r12 I11 => (if r12 = 0 then j_X9_tell_53 x1 x2 (0 : Int32) I11 else j_X9_tell_53 x1 x2 (1 : Int32) I11) else j_X9_tell_53 x1 x2 (0 : Int32) I)))
set_option maxRecDepth 100000 in
theorem tj_X9_tell_53 {G : Gt} (hG : Gok G) (hn : gn G = 104) (x1 : Int32) (x2 : Int32) (y0 : Int32) (I : Mem) : J G (mu_X9_tell G) 53 [some (.ref 89), some (.int x1), some (.int x2), none] [.int y0] I (j_X9_tell_53 x1 x2 y0 I) := by
  unfold j_X9_tell_53
  refine J_istore_n (pc := 53) (ls' := [some (.ref 89), some (.int x1), some (.int x2), some (.int y0)]) dX9_tell_53 (Nat.le_of_ble_eq_true rfl) rfl rfl ?_
  refine J_iload_n (pc := 54) (x := y0) dX9_tell_54 rfl ?_
  refine J_if_eq (pc := 55) (tgt := 84) dX9_tell_55 (by decide) ?_ ?_
  · refine J_iconst (pc := 84) (v := (-1 : Int32)) dX9_tell_84 (by decide) ?_
    exact J_iret (pc := 85) dX9_tell_85
  · refine J_aload_n (pc := 58) (x := 89) dX9_tell_58 rfl ?_
    refine J_iload_n (pc := 59) (x := x1) dX9_tell_59 rfl ?_
    refine J_if_ne (pc := 60) (tgt := 67) dX9_tell_60 (by decide) ?_ ?_
    · refine J_iconst (pc := 63) (v := (0 : Int32)) dX9_tell_63 (by decide) ?_
      refine J_goto (pc := 64) (tgt := 77) dX9_tell_64 (by decide) ?_
      refine J_iload_n (pc := 77) (x := x2) dX9_tell_77 rfl ?_
      refine J_callVi (pc := 78) (t := 9) (as := [.int (0 : Int32), .int x2]) (st := []) (c_X9_becomes hG hn (0 : Int32) x2 I) (ok_m hn 89 (by decide) rfl) (by decide) rfl (cw_RX9_119 rfl) wd_480 wd_479 rfl ⟨Nat.le_of_ble_eq_true rfl, Nat.le_of_ble_eq_true rfl, Nat.le_of_ble_eq_true rfl, Nat.le_of_ble_eq_true rfl⟩ (Nat.le_of_ble_eq_true rfl) rfl dX9_tell_78 (fun r4 I3 => ?_)
      refine J_goto (pc := 81) (tgt := 85) dX9_tell_81 (by decide) ?_
      exact J_iret (pc := 85) dX9_tell_85
    · refine J_iload_n (pc := 67) (x := x1) dX9_tell_67 rfl ?_
      refine J_iconst (pc := 68) (v := (1 : Int32)) dX9_tell_68 (by decide) ?_
      refine J_icmp_ne (pc := 69) (tgt := 76) dX9_tell_69 (by decide) ?_ ?_
      · refine J_iconst (pc := 72) (v := (1 : Int32)) dX9_tell_72 (by decide) ?_
        refine J_goto (pc := 73) (tgt := 77) dX9_tell_73 (by decide) ?_
        refine J_iload_n (pc := 77) (x := x2) dX9_tell_77 rfl ?_
        refine J_callVi (pc := 78) (t := 9) (as := [.int (1 : Int32), .int x2]) (st := []) (c_X9_becomes hG hn (1 : Int32) x2 I) (ok_m hn 89 (by decide) rfl) (by decide) rfl (cw_RX9_119 rfl) wd_480 wd_479 rfl ⟨Nat.le_of_ble_eq_true rfl, Nat.le_of_ble_eq_true rfl, Nat.le_of_ble_eq_true rfl, Nat.le_of_ble_eq_true rfl⟩ (Nat.le_of_ble_eq_true rfl) rfl dX9_tell_78 (fun r6 I5 => ?_)
        refine J_goto (pc := 81) (tgt := 85) dX9_tell_81 (by decide) ?_
        exact J_iret (pc := 85) dX9_tell_85
      · refine J_iconst (pc := 76) (v := (2 : Int32)) dX9_tell_76 (by decide) ?_
        refine J_iload_n (pc := 77) (x := x2) dX9_tell_77 rfl ?_
        refine J_callVi (pc := 78) (t := 9) (as := [.int (2 : Int32), .int x2]) (st := []) (c_X9_becomes hG hn (2 : Int32) x2 I) (ok_m hn 89 (by decide) rfl) (by decide) rfl (cw_RX9_119 rfl) wd_480 wd_479 rfl ⟨Nat.le_of_ble_eq_true rfl, Nat.le_of_ble_eq_true rfl, Nat.le_of_ble_eq_true rfl, Nat.le_of_ble_eq_true rfl⟩ (Nat.le_of_ble_eq_true rfl) rfl dX9_tell_78 (fun r8 I7 => ?_)
        refine J_goto (pc := 81) (tgt := 85) dX9_tell_81 (by decide) ?_
        exact J_iret (pc := 85) dX9_tell_85
set_option maxRecDepth 100000 in
theorem c_X9_tell {G : Gt} (hG : Gok G) (hn : gn G = 104) (x1 : Int32) (x2 : Int32) (I : Mem) : Cti G yX9_tell cX9_tell 4 (some .int) 2 44 [.ref 89, .int x1, .int x2] I (f_X9_tell x1 x2 I) := by
  refine Cti.of (ls := [some (.ref 89), some (.int x1), some (.int x2), none]) 1 hG (by decide) rfl (Nat.le_of_ble_eq_true rfl) ?_
  unfold f_X9_tell
  refine J_iload_n (pc := 0) (x := x1) dX9_tell_0 rfl ?_
  refine J_if_ne (pc := 1) (tgt := 16) dX9_tell_1 (by decide) ?_ ?_
  · refine J_iload_n (pc := 4) (x := x2) dX9_tell_4 rfl ?_
    refine J_i2l (pc := 5) dX9_tell_5 ?_
    refine J_lconst (pc := 6) (v := (1 : Int64)) dX9_tell_6 (by decide) ?_
    refine J_ldc2 (pc := 7) (v := (400 : Int64)) wd_469 dX9_tell_7 ?_
    refine J_callSi (pc := 10) (as := [.long ((x2).toInt64), .long (1 : Int64), .long (400 : Int64)]) (st := []) (c_X9_in hG hn ((x2).toInt64) (1 : Int64) (400 : Int64) I) (cw_RX9_57 rfl) wd_425 rfl ⟨Nat.le_of_ble_eq_true rfl, Nat.le_of_ble_eq_true rfl, Nat.le_of_ble_eq_true rfl, Nat.le_of_ble_eq_true rfl⟩ (Nat.le_of_ble_eq_true rfl) rfl dX9_tell_10 (fun r2 I1 => ?_)
    refine J_goto (pc := 13) (tgt := 53) dX9_tell_13 (by decide) ?_
    exact tj_X9_tell_53 hG hn x1 x2 r2 I1
  · refine J_iload_n (pc := 16) (x := x1) dX9_tell_16 rfl ?_
    refine J_iconst (pc := 17) (v := (1 : Int32)) dX9_tell_17 (by decide) ?_
    refine J_icmp_ne (pc := 18) (tgt := 33) dX9_tell_18 (by decide) ?_ ?_
    · refine J_iload_n (pc := 21) (x := x2) dX9_tell_21 rfl ?_
      refine J_i2l (pc := 22) dX9_tell_22 ?_
      refine J_lconst (pc := 23) (v := (0 : Int64)) dX9_tell_23 (by decide) ?_
      refine J_ldc2 (pc := 24) (v := (20 : Int64)) wd_483 dX9_tell_24 ?_
      refine J_callSi (pc := 27) (as := [.long ((x2).toInt64), .long (0 : Int64), .long (20 : Int64)]) (st := []) (c_X9_in hG hn ((x2).toInt64) (0 : Int64) (20 : Int64) I) (cw_RX9_57 rfl) wd_425 rfl ⟨Nat.le_of_ble_eq_true rfl, Nat.le_of_ble_eq_true rfl, Nat.le_of_ble_eq_true rfl, Nat.le_of_ble_eq_true rfl⟩ (Nat.le_of_ble_eq_true rfl) rfl dX9_tell_27 (fun r10 I9 => ?_)
      refine J_goto (pc := 30) (tgt := 53) dX9_tell_30 (by decide) ?_
      exact tj_X9_tell_53 hG hn x1 x2 r10 I9
    · refine J_iload_n (pc := 33) (x := x1) dX9_tell_33 rfl ?_
      refine J_iconst (pc := 34) (v := (2 : Int32)) dX9_tell_34 (by decide) ?_
      refine J_icmp_ne (pc := 35) (tgt := 52) dX9_tell_35 (by decide) ?_ ?_
      · refine J_iload_n (pc := 38) (x := x2) dX9_tell_38 rfl ?_
        refine J_i2l (pc := 39) dX9_tell_39 ?_
        refine J_lconst (pc := 40) (v := (0 : Int64)) dX9_tell_40 (by decide) ?_
        refine J_lconst (pc := 41) (v := (1 : Int64)) dX9_tell_41 (by decide) ?_
        refine J_callSi (pc := 42) (as := [.long ((x2).toInt64), .long (0 : Int64), .long (1 : Int64)]) (st := []) (c_X9_in hG hn ((x2).toInt64) (0 : Int64) (1 : Int64) I) (cw_RX9_57 rfl) wd_425 rfl ⟨Nat.le_of_ble_eq_true rfl, Nat.le_of_ble_eq_true rfl, Nat.le_of_ble_eq_true rfl, Nat.le_of_ble_eq_true rfl⟩ (Nat.le_of_ble_eq_true rfl) rfl dX9_tell_42 (fun r12 I11 => ?_)
        refine J_if_eq (pc := 45) (tgt := 52) dX9_tell_45 (by decide) ?_ ?_
        · refine J_iconst (pc := 52) (v := (0 : Int32)) dX9_tell_52 (by decide) ?_
          exact tj_X9_tell_53 hG hn x1 x2 (0 : Int32) I11
        · refine J_iconst (pc := 48) (v := (1 : Int32)) dX9_tell_48 (by decide) ?_
          refine J_goto (pc := 49) (tgt := 53) dX9_tell_49 (by decide) ?_
          exact tj_X9_tell_53 hG hn x1 x2 (1 : Int32) I11
      · refine J_iconst (pc := 52) (v := (0 : Int32)) dX9_tell_52 (by decide) ?_
        exact tj_X9_tell_53 hG hn x1 x2 (0 : Int32) I
abbrev mu_X9_isScheme (G : Gt) : Mt (Int32 × Mem) := mi G cX9_isScheme 2 yX9_isScheme.cls (some .boolean) 1 25
def f_X9_isScheme (x1 : Int32) (I : Mem) : Option (Int32 × Mem) :=
  bI (f_X9_in ((x1).toInt64) (0 : Int64) ((((I 91 3) - (1 : Int32))).toInt64) I) fun r2 I1 => ck (r2 == 0 || r2 == 1) <| some (r2, I1)
set_option maxRecDepth 100000 in
theorem c_X9_isScheme {G : Gt} (hG : Gok G) (hn : gn G = 104) (x1 : Int32) (I : Mem) : Cti G yX9_isScheme cX9_isScheme 2 (some .boolean) 1 25 [.ref 89, .int x1] I (f_X9_isScheme x1 I) := by
  refine Cti.of (ls := [some (.ref 89), some (.int x1)]) 0 hG (by decide) rfl (Nat.le_of_ble_eq_true rfl) ?_
  unfold f_X9_isScheme
  refine J_iload_n (pc := 0) (x := x1) dX9_isScheme_0 rfl ?_
  refine J_i2l (pc := 1) dX9_isScheme_1 ?_
  refine J_lconst (pc := 2) (v := (0 : Int64)) dX9_isScheme_2 (by decide) ?_
  refine J_aload_n (pc := 3) (x := 89) dX9_isScheme_3 rfl ?_
  refine J_get (pc := 4) (t := 9) (k := 2) (.ref 91) (ok_m hn 89 (by decide) rfl) (by decide) rfl ingX9 (by decide) wd_467 rfl dX9_isScheme_4 ?_
  refine J_iconst (pc := 7) (v := (3 : Int32)) dX9_isScheme_7 (by decide) ?_
  refine J_ild (pc := 8) (t := 31) (k := 3) (ok_m hn 91 (by decide) rfl) iT_31 (inb_in (by decide)) (by decide) dX9_isScheme_8 ?_
  refine J_iconst (pc := 9) (v := (1 : Int32)) dX9_isScheme_9 (by decide) ?_
  refine J_isub (pc := 10) dX9_isScheme_10 ?_
  refine J_i2l (pc := 11) dX9_isScheme_11 ?_
  refine J_callSi (pc := 12) (as := [.long ((x1).toInt64), .long (0 : Int64), .long ((((I 91 3) - (1 : Int32))).toInt64)]) (st := []) (c_X9_in hG hn ((x1).toInt64) (0 : Int64) ((((I 91 3) - (1 : Int32))).toInt64) I) (cw_RX9_57 rfl) wd_425 rfl ⟨Nat.le_of_ble_eq_true rfl, Nat.le_of_ble_eq_true rfl, Nat.le_of_ble_eq_true rfl, Nat.le_of_ble_eq_true rfl⟩ (Nat.le_of_ble_eq_true rfl) rfl dX9_isScheme_12 (fun r2 I1 => ?_)
  refine J_ck (fun hc3 => ?_)
  exact J_zret (pc := 15) (nar01 hc3) dX9_isScheme_15
abbrev mu_X9_price (G : Gt) : Mt (Int32 × Mem) := mi G cX9_price 3 yX9_price.cls (some .int) 2 46
def f_X9_price (x1 : Int32) (x2 : Int32) (I : Mem) : Option (Int32 × Mem) :=
  bI (f_X9_isScheme x1 I) fun r2 I1 => (if r2 = 0 then some ((-1 : Int32), I1) else bI (f_X9_in ((x2).toInt64) (0 : Int64) (99 : Int64) I1) fun r4 I3 => (if r4 = 0 then some ((-1 : Int32), I3) else bI (f_X9_becomes ((4 : Int32) + x1) x2 I3) fun r6 I5 => some (r6, I5)))
set_option maxRecDepth 100000 in
theorem c_X9_price {G : Gt} (hG : Gok G) (hn : gn G = 104) (x1 : Int32) (x2 : Int32) (I : Mem) : Cti G yX9_price cX9_price 3 (some .int) 2 46 [.ref 89, .int x1, .int x2] I (f_X9_price x1 x2 I) := by
  refine Cti.of (ls := [some (.ref 89), some (.int x1), some (.int x2)]) 0 hG (by decide) rfl (Nat.le_of_ble_eq_true rfl) ?_
  unfold f_X9_price
  refine J_aload_n (pc := 0) (x := 89) dX9_price_0 rfl ?_
  refine J_iload_n (pc := 1) (x := x1) dX9_price_1 rfl ?_
  refine J_callVi (pc := 2) (t := 9) (as := [.int x1]) (st := []) (c_X9_isScheme hG hn x1 I) (ok_m hn 89 (by decide) rfl) (by decide) rfl (cw_RX9_122 rfl) wd_485 wd_484 rfl ⟨Nat.le_of_ble_eq_true rfl, Nat.le_of_ble_eq_true rfl, Nat.le_of_ble_eq_true rfl, Nat.le_of_ble_eq_true rfl⟩ (Nat.le_of_ble_eq_true rfl) rfl dX9_price_2 (fun r2 I1 => ?_)
  refine J_if_eq (pc := 5) (tgt := 31) dX9_price_5 (by decide) ?_ ?_
  · refine J_iconst (pc := 31) (v := (-1 : Int32)) dX9_price_31 (by decide) ?_
    exact J_iret (pc := 32) dX9_price_32
  · refine J_iload_n (pc := 8) (x := x2) dX9_price_8 rfl ?_
    refine J_i2l (pc := 9) dX9_price_9 ?_
    refine J_lconst (pc := 10) (v := (0 : Int64)) dX9_price_10 (by decide) ?_
    refine J_ldc2 (pc := 11) (v := (99 : Int64)) wd_488 dX9_price_11 ?_
    refine J_callSi (pc := 14) (as := [.long ((x2).toInt64), .long (0 : Int64), .long (99 : Int64)]) (st := []) (c_X9_in hG hn ((x2).toInt64) (0 : Int64) (99 : Int64) I1) (cw_RX9_57 rfl) wd_425 rfl ⟨Nat.le_of_ble_eq_true rfl, Nat.le_of_ble_eq_true rfl, Nat.le_of_ble_eq_true rfl, Nat.le_of_ble_eq_true rfl⟩ (Nat.le_of_ble_eq_true rfl) rfl dX9_price_14 (fun r4 I3 => ?_)
    refine J_if_eq (pc := 17) (tgt := 31) dX9_price_17 (by decide) ?_ ?_
    · refine J_iconst (pc := 31) (v := (-1 : Int32)) dX9_price_31 (by decide) ?_
      exact J_iret (pc := 32) dX9_price_32
    · refine J_aload_n (pc := 20) (x := 89) dX9_price_20 rfl ?_
      refine J_iconst (pc := 21) (v := (4 : Int32)) dX9_price_21 (by decide) ?_
      refine J_iload_n (pc := 22) (x := x1) dX9_price_22 rfl ?_
      refine J_iadd (pc := 23) dX9_price_23 ?_
      refine J_iload_n (pc := 24) (x := x2) dX9_price_24 rfl ?_
      refine J_callVi (pc := 25) (t := 9) (as := [.int ((4 : Int32) + x1), .int x2]) (st := []) (c_X9_becomes hG hn ((4 : Int32) + x1) x2 I3) (ok_m hn 89 (by decide) rfl) (by decide) rfl (cw_RX9_119 rfl) wd_480 wd_479 rfl ⟨Nat.le_of_ble_eq_true rfl, Nat.le_of_ble_eq_true rfl, Nat.le_of_ble_eq_true rfl, Nat.le_of_ble_eq_true rfl⟩ (Nat.le_of_ble_eq_true rfl) rfl dX9_price_25 (fun r6 I5 => ?_)
      refine J_goto (pc := 28) (tgt := 32) dX9_price_28 (by decide) ?_
      exact J_iret (pc := 32) dX9_price_32
abbrev mu_X9_folds (G : Gt) : Mt (Int32 × Mem) := mi G cX9_folds 5 yX9_folds.cls (some .int) 2 46
def b_X9_folds_74 (K140 : Int32 → Int32 → Int32 → Mem → Option (Int32 × Mem)) (R : Int32 → Int32 → Int32 → Int32 → Mem → Option (Int32 × Mem)) (x1 : Int32) (x2 : Int32) (x3 : Int32) (x4 : Int32) (I : Mem) : Option (Int32 × Mem) :=
  (if (I 89 0) ≤ x4 then K140 x1 x2 x3 I else (if x2 = 0 then K140 x1 x2 x3 I else ck (inb x4 200) <| bI (f_X9_isFold (I 90 (tn x4)) I) fun r8 I7 => (if x3 = 0 then R x1 r8 (0 : Int32) (x4 + (1 : Int32)) I7 else ck (inb x4 200) <| ck (inb ((((8 : Int32) + ((5 : Int32) * x1)) + (1 : Int32)) + x4) 132) <| (if (I7 90 (tn x4)) = (I7 91 (tn ((((8 : Int32) + ((5 : Int32) * x1)) + (1 : Int32)) + x4))) then R x1 r8 (1 : Int32) (x4 + (1 : Int32)) I7 else R x1 r8 (0 : Int32) (x4 + (1 : Int32)) I7))))
def l_X9_folds_74 (K140 : Int32 → Int32 → Int32 → Mem → Option (Int32 × Mem)) : Nat → Int32 → Int32 → Int32 → Int32 → Mem → Option (Int32 × Mem) := fx (b_X9_folds_74 K140) (fun _ _ _ _ _ => none)
def b_X9_folds_173 (K221 : Mem → Option (Int32 × Mem)) (R : Int32 → Int32 → Mem → Option (Int32 × Mem)) (x1 : Int32) (x4 : Int32) (I : Mem) : Option (Int32 × Mem) :=
  (if (4 : Int32) ≤ x4 then K221 I else (if (I 89 0) ≤ x4 then ck (inb ((((8 : Int32) + ((5 : Int32) * x1)) + (1 : Int32)) + x4) 132) <| R x1 (x4 + (1 : Int32)) (stm I 91 (tn ((((8 : Int32) + ((5 : Int32) * x1)) + (1 : Int32)) + x4)) (0 : Int32)) else ck (inb x4 200) <| ck (inb ((((8 : Int32) + ((5 : Int32) * x1)) + (1 : Int32)) + x4) 132) <| R x1 (x4 + (1 : Int32)) (stm I 91 (tn ((((8 : Int32) + ((5 : Int32) * x1)) + (1 : Int32)) + x4)) (I 90 (tn x4)))))
def l_X9_folds_173 (K221 : Mem → Option (Int32 × Mem)) : Nat → Int32 → Int32 → Mem → Option (Int32 × Mem) := fx (b_X9_folds_173 K221) (fun _ _ _ => none)
def j_X9_folds_140 (x1 : Int32) (x2 : Int32) (x3 : Int32) (I : Mem) : Option (Int32 × Mem) :=
  (if x2 = 0 then some ((-2 : Int32), I) else (if x3 = 0 then bV (f_X9_note I) fun I15 => ck (inb ((8 : Int32) + ((5 : Int32) * x1)) 132) <| l_X9_folds_173 (fun I20 => bV (f_X9_wholes I20) fun I21 => some ((I21 89 0), I21)) fuel x1 (0 : Int32) (stm I15 91 (tn ((8 : Int32) + ((5 : Int32) * x1))) (I15 89 0)) else some ((-2 : Int32), I)))
def j_X9_folds_46 (x1 : Int32) (y0 : Int32) (I : Mem) : Option (Int32 × Mem) :=
  ck (inb ((8 : Int32) + ((5 : Int32) * x1)) 132) <| (if (I 89 0) = (I 91 (tn ((8 : Int32) + ((5 : Int32) * x1)))) then l_X9_folds_74 (fun (z11 : Int32) (z12 : Int32) (z13 : Int32) I14 => j_X9_folds_140 z11 z12 z13 I14) fuel x1 y0 (1 : Int32) (0 : Int32) I else l_X9_folds_74 (fun (z22 : Int32) (z23 : Int32) (z24 : Int32) I25 => j_X9_folds_140 z22 z23 z24 I25) fuel x1 y0 (0 : Int32) (0 : Int32) I)
def f_X9_folds (x1 : Int32) (I : Mem) : Option (Int32 × Mem) :=
  bI (f_X9_isScheme x1 I) fun r2 I1 => (if r2 = 0 then some ((-1 : Int32), I1) else bI (f_X9_in (((I1 89 0)).toInt64) (1 : Int64) (4 : Int64) I1) fun r4 I3 => (if r4 = 0 then j_X9_folds_46 x1 (0 : Int32) I3 else bI (f_X9_byteAt ((I3 89 0) - (1 : Int32)) I3) fun r27 I26 => bI (f_X9_isSide r27 I26) fun r29 I28 => (if r29 = 0 then j_X9_folds_46 x1 (0 : Int32) I28 else j_X9_folds_46 x1 (1 : Int32) I28)))
set_option maxRecDepth 100000 in
theorem tb_X9_folds_74 {G : Gt} (hG : Gok G) (hn : gn G = 104) {K140 : Int32 → Int32 → Int32 → Mem → Option (Int32 × Mem)} (hK140 : ∀ (x1 : Int32) (x2 : Int32) (x3 : Int32) (I : Mem), J G (mu_X9_folds G) 140 [some (.ref 89), some (.int x1), some (.int x2), some (.int x3), none] [] I (K140 x1 x2 x3 I)) {R : Int32 → Int32 → Int32 → Int32 → Mem → Option (Int32 × Mem)} (hR : ∀ (x1 : Int32) (x2 : Int32) (x3 : Int32) (x4 : Int32) (I : Mem), J G (mu_X9_folds G) 74 [some (.ref 89), some (.int x1), some (.int x2), some (.int x3), some (.int x4)] [] I (R x1 x2 x3 x4 I)) (x1 : Int32) (x2 : Int32) (x3 : Int32) (x4 : Int32) (I : Mem) : J G (mu_X9_folds G) 74 [some (.ref 89), some (.int x1), some (.int x2), some (.int x3), some (.int x4)] [] I (b_X9_folds_74 K140 R x1 x2 x3 x4 I) := by
  unfold b_X9_folds_74
  refine J_iload (pc := 74) (x := x4) dX9_folds_74 rfl ?_
  refine J_aload_n (pc := 76) (x := 89) dX9_folds_76 rfl ?_
  refine J_get (pc := 77) (t := 9) (k := 0) (.int (I 89 0)) (ok_m hn 89 (by decide) rfl) (by decide) rfl ingX9 (by decide) wd_429 rfl dX9_folds_77 ?_
  refine J_icmp_ge (pc := 80) (tgt := 140) dX9_folds_80 (by decide) ?_ ?_
  · refine J_weak (ls' := [some (.ref 89), some (.int x1), some (.int x2), some (.int x3), none]) ⟨rfl, rfl, rfl, rfl, trivial⟩ ?_
    exact hK140 x1 x2 x3 I
  · refine J_iload_n (pc := 83) (x := x2) dX9_folds_83 rfl ?_
    refine J_if_eq (pc := 84) (tgt := 140) dX9_folds_84 (by decide) ?_ ?_
    · refine J_weak (ls' := [some (.ref 89), some (.int x1), some (.int x2), some (.int x3), none]) ⟨rfl, rfl, rfl, rfl, trivial⟩ ?_
      exact hK140 x1 x2 x3 I
    · refine J_aload_n (pc := 87) (x := 89) dX9_folds_87 rfl ?_
      refine J_get (pc := 88) (t := 9) (k := 1) (.ref 90) (ok_m hn 89 (by decide) rfl) (by decide) rfl ingX9 (by decide) wd_430 rfl dX9_folds_88 ?_
      refine J_iload (pc := 91) (x := x4) dX9_folds_91 rfl ?_
      refine J_ck (fun hc6 => ?_)
      refine J_ild (pc := 93) (t := 30) (k := (tn x4)) (ok_m hn 90 (by decide) rfl) iT_30 (inb_in hc6) rfl dX9_folds_93 ?_
      refine J_callSi (pc := 94) (as := [.int (I 90 (tn x4))]) (st := []) (c_X9_isFold hG hn (I 90 (tn x4)) I) (cw_RX9_76 rfl) wd_449 rfl ⟨Nat.le_of_ble_eq_true rfl, Nat.le_of_ble_eq_true rfl, Nat.le_of_ble_eq_true rfl, Nat.le_of_ble_eq_true rfl⟩ (Nat.le_of_ble_eq_true rfl) rfl dX9_folds_94 (fun r8 I7 => ?_)
      refine J_istore_n (pc := 97) (ls' := [some (.ref 89), some (.int x1), some (.int r8), some (.int x3), some (.int x4)]) dX9_folds_97 (Nat.le_of_ble_eq_true rfl) rfl rfl ?_
      refine J_iload_n (pc := 98) (x := x3) dX9_folds_98 rfl ?_
      refine J_if_eq (pc := 99) (tgt := 132) dX9_folds_99 (by decide) ?_ ?_
      · refine J_iconst (pc := 132) (v := (0 : Int32)) dX9_folds_132 (by decide) ?_
        refine J_istore_n (pc := 133) (ls' := [some (.ref 89), some (.int x1), some (.int r8), some (.int (0 : Int32)), some (.int x4)]) dX9_folds_133 (Nat.le_of_ble_eq_true rfl) rfl rfl ?_
        refine J_iinc (pc := 134) (d := (1 : Int32)) (ls' := [some (.ref 89), some (.int x1), some (.int r8), some (.int (0 : Int32)), some (.int (x4 + (1 : Int32)))]) dX9_folds_134 (by decide) rfl (Nat.le_of_ble_eq_true rfl) rfl rfl ?_
        refine J_goto (pc := 137) (tgt := 74) dX9_folds_137 (by decide) ?_
        exact hR x1 r8 (0 : Int32) (x4 + (1 : Int32)) I7
      · refine J_aload_n (pc := 102) (x := 89) dX9_folds_102 rfl ?_
        refine J_get (pc := 103) (t := 9) (k := 1) (.ref 90) (ok_m hn 89 (by decide) rfl) (by decide) rfl ingX9 (by decide) wd_430 rfl dX9_folds_103 ?_
        refine J_iload (pc := 106) (x := x4) dX9_folds_106 rfl ?_
        refine J_ck (fun hc9 => ?_)
        refine J_ild (pc := 108) (t := 30) (k := (tn x4)) (ok_m hn 90 (by decide) rfl) iT_30 (inb_in hc9) rfl dX9_folds_108 ?_
        refine J_aload_n (pc := 109) (x := 89) dX9_folds_109 rfl ?_
        refine J_get (pc := 110) (t := 9) (k := 2) (.ref 91) (ok_m hn 89 (by decide) rfl) (by decide) rfl ingX9 (by decide) wd_467 rfl dX9_folds_110 ?_
        refine J_bipush (pc := 113) (v := (8 : Int32)) dX9_folds_113 (by decide) ?_
        refine J_iconst (pc := 115) (v := (5 : Int32)) dX9_folds_115 (by decide) ?_
        refine J_iload_n (pc := 116) (x := x1) dX9_folds_116 rfl ?_
        refine J_imul (pc := 117) dX9_folds_117 ?_
        refine J_iadd (pc := 118) dX9_folds_118 ?_
        refine J_iconst (pc := 119) (v := (1 : Int32)) dX9_folds_119 (by decide) ?_
        refine J_iadd (pc := 120) dX9_folds_120 ?_
        refine J_iload (pc := 121) (x := x4) dX9_folds_121 rfl ?_
        refine J_iadd (pc := 123) dX9_folds_123 ?_
        refine J_ck (fun hc10 => ?_)
        refine J_ild (pc := 124) (t := 31) (k := (tn ((((8 : Int32) + ((5 : Int32) * x1)) + (1 : Int32)) + x4))) (ok_m hn 91 (by decide) rfl) iT_31 (inb_in hc10) rfl dX9_folds_124 ?_
        refine J_icmp_ne (pc := 125) (tgt := 132) dX9_folds_125 (by decide) ?_ ?_
        · refine J_iconst (pc := 128) (v := (1 : Int32)) dX9_folds_128 (by decide) ?_
          refine J_goto (pc := 129) (tgt := 133) dX9_folds_129 (by decide) ?_
          refine J_istore_n (pc := 133) (ls' := [some (.ref 89), some (.int x1), some (.int r8), some (.int (1 : Int32)), some (.int x4)]) dX9_folds_133 (Nat.le_of_ble_eq_true rfl) rfl rfl ?_
          refine J_iinc (pc := 134) (d := (1 : Int32)) (ls' := [some (.ref 89), some (.int x1), some (.int r8), some (.int (1 : Int32)), some (.int (x4 + (1 : Int32)))]) dX9_folds_134 (by decide) rfl (Nat.le_of_ble_eq_true rfl) rfl rfl ?_
          refine J_goto (pc := 137) (tgt := 74) dX9_folds_137 (by decide) ?_
          exact hR x1 r8 (1 : Int32) (x4 + (1 : Int32)) I7
        · refine J_iconst (pc := 132) (v := (0 : Int32)) dX9_folds_132 (by decide) ?_
          refine J_istore_n (pc := 133) (ls' := [some (.ref 89), some (.int x1), some (.int r8), some (.int (0 : Int32)), some (.int x4)]) dX9_folds_133 (Nat.le_of_ble_eq_true rfl) rfl rfl ?_
          refine J_iinc (pc := 134) (d := (1 : Int32)) (ls' := [some (.ref 89), some (.int x1), some (.int r8), some (.int (0 : Int32)), some (.int (x4 + (1 : Int32)))]) dX9_folds_134 (by decide) rfl (Nat.le_of_ble_eq_true rfl) rfl rfl ?_
          refine J_goto (pc := 137) (tgt := 74) dX9_folds_137 (by decide) ?_
          exact hR x1 r8 (0 : Int32) (x4 + (1 : Int32)) I7
theorem tl_X9_folds_74 {G : Gt} (hG : Gok G) (hn : gn G = 104) {K140 : Int32 → Int32 → Int32 → Mem → Option (Int32 × Mem)} (hK140 : ∀ (x1 : Int32) (x2 : Int32) (x3 : Int32) (I : Mem), J G (mu_X9_folds G) 140 [some (.ref 89), some (.int x1), some (.int x2), some (.int x3), none] [] I (K140 x1 x2 x3 I)) (n : Nat) : ∀ (x1 : Int32) (x2 : Int32) (x3 : Int32) (x4 : Int32) (I : Mem), J G (mu_X9_folds G) 74 [some (.ref 89), some (.int x1), some (.int x2), some (.int x3), some (.int x4)] [] I (l_X9_folds_74 K140 n x1 x2 x3 x4 I) := by
  induction n with
  | zero => intro x1 x2 x3 x4 I; exact J_none
  | succ n ih => intro x1 x2 x3 x4 I; exact tb_X9_folds_74 hG hn hK140 ih x1 x2 x3 x4 I
set_option maxRecDepth 100000 in
theorem tb_X9_folds_173 {G : Gt} (hG : Gok G) (hn : gn G = 104) {K221 : Mem → Option (Int32 × Mem)} (hK221 : ∀ (I : Mem), J G (mu_X9_folds G) 221 [some (.ref 89), none, none, none, none] [] I (K221 I)) {R : Int32 → Int32 → Mem → Option (Int32 × Mem)} (hR : ∀ (x1 : Int32) (x4 : Int32) (I : Mem), J G (mu_X9_folds G) 173 [some (.ref 89), some (.int x1), none, none, some (.int x4)] [] I (R x1 x4 I)) (x1 : Int32) (x4 : Int32) (I : Mem) : J G (mu_X9_folds G) 173 [some (.ref 89), some (.int x1), none, none, some (.int x4)] [] I (b_X9_folds_173 K221 R x1 x4 I) := by
  unfold b_X9_folds_173
  refine J_iload (pc := 173) (x := x4) dX9_folds_173 rfl ?_
  refine J_iconst (pc := 175) (v := (4 : Int32)) dX9_folds_175 (by decide) ?_
  refine J_icmp_ge (pc := 176) (tgt := 221) dX9_folds_176 (by decide) ?_ ?_
  · refine J_weak (ls' := [some (.ref 89), none, none, none, none]) ⟨rfl, trivial⟩ ?_
    exact hK221 I
  · refine J_aload_n (pc := 179) (x := 89) dX9_folds_179 rfl ?_
    refine J_get (pc := 180) (t := 9) (k := 2) (.ref 91) (ok_m hn 89 (by decide) rfl) (by decide) rfl ingX9 (by decide) wd_467 rfl dX9_folds_180 ?_
    refine J_bipush (pc := 183) (v := (8 : Int32)) dX9_folds_183 (by decide) ?_
    refine J_iconst (pc := 185) (v := (5 : Int32)) dX9_folds_185 (by decide) ?_
    refine J_iload_n (pc := 186) (x := x1) dX9_folds_186 rfl ?_
    refine J_imul (pc := 187) dX9_folds_187 ?_
    refine J_iadd (pc := 188) dX9_folds_188 ?_
    refine J_iconst (pc := 189) (v := (1 : Int32)) dX9_folds_189 (by decide) ?_
    refine J_iadd (pc := 190) dX9_folds_190 ?_
    refine J_iload (pc := 191) (x := x4) dX9_folds_191 rfl ?_
    refine J_iadd (pc := 193) dX9_folds_193 ?_
    refine J_iload (pc := 194) (x := x4) dX9_folds_194 rfl ?_
    refine J_aload_n (pc := 196) (x := 89) dX9_folds_196 rfl ?_
    refine J_get (pc := 197) (t := 9) (k := 0) (.int (I 89 0)) (ok_m hn 89 (by decide) rfl) (by decide) rfl ingX9 (by decide) wd_429 rfl dX9_folds_197 ?_
    refine J_icmp_ge (pc := 200) (tgt := 213) dX9_folds_200 (by decide) ?_ ?_
    · refine J_iconst (pc := 213) (v := (0 : Int32)) dX9_folds_213 (by decide) ?_
      refine J_ck (fun hc17 => ?_)
      refine J_ist (pc := 214) (t := 31) (k := (tn ((((8 : Int32) + ((5 : Int32) * x1)) + (1 : Int32)) + x4))) (ok_m hn 91 (by decide) rfl) iT_31 (inb_in hc17) rfl dX9_folds_214 ?_
      refine J_iinc (pc := 215) (d := (1 : Int32)) (ls' := [some (.ref 89), some (.int x1), none, none, some (.int (x4 + (1 : Int32)))]) dX9_folds_215 (by decide) rfl (Nat.le_of_ble_eq_true rfl) rfl rfl ?_
      refine J_goto (pc := 218) (tgt := 173) dX9_folds_218 (by decide) ?_
      exact hR x1 (x4 + (1 : Int32)) (stm I 91 (tn ((((8 : Int32) + ((5 : Int32) * x1)) + (1 : Int32)) + x4)) (0 : Int32))
    · refine J_aload_n (pc := 203) (x := 89) dX9_folds_203 rfl ?_
      refine J_get (pc := 204) (t := 9) (k := 1) (.ref 90) (ok_m hn 89 (by decide) rfl) (by decide) rfl ingX9 (by decide) wd_430 rfl dX9_folds_204 ?_
      refine J_iload (pc := 207) (x := x4) dX9_folds_207 rfl ?_
      refine J_ck (fun hc18 => ?_)
      refine J_ild (pc := 209) (t := 30) (k := (tn x4)) (ok_m hn 90 (by decide) rfl) iT_30 (inb_in hc18) rfl dX9_folds_209 ?_
      refine J_goto (pc := 210) (tgt := 214) dX9_folds_210 (by decide) ?_
      refine J_ck (fun hc19 => ?_)
      refine J_ist (pc := 214) (t := 31) (k := (tn ((((8 : Int32) + ((5 : Int32) * x1)) + (1 : Int32)) + x4))) (ok_m hn 91 (by decide) rfl) iT_31 (inb_in hc19) rfl dX9_folds_214 ?_
      refine J_iinc (pc := 215) (d := (1 : Int32)) (ls' := [some (.ref 89), some (.int x1), none, none, some (.int (x4 + (1 : Int32)))]) dX9_folds_215 (by decide) rfl (Nat.le_of_ble_eq_true rfl) rfl rfl ?_
      refine J_goto (pc := 218) (tgt := 173) dX9_folds_218 (by decide) ?_
      exact hR x1 (x4 + (1 : Int32)) (stm I 91 (tn ((((8 : Int32) + ((5 : Int32) * x1)) + (1 : Int32)) + x4)) (I 90 (tn x4)))
theorem tl_X9_folds_173 {G : Gt} (hG : Gok G) (hn : gn G = 104) {K221 : Mem → Option (Int32 × Mem)} (hK221 : ∀ (I : Mem), J G (mu_X9_folds G) 221 [some (.ref 89), none, none, none, none] [] I (K221 I)) (n : Nat) : ∀ (x1 : Int32) (x4 : Int32) (I : Mem), J G (mu_X9_folds G) 173 [some (.ref 89), some (.int x1), none, none, some (.int x4)] [] I (l_X9_folds_173 K221 n x1 x4 I) := by
  induction n with
  | zero => intro x1 x4 I; exact J_none
  | succ n ih => intro x1 x4 I; exact tb_X9_folds_173 hG hn hK221 ih x1 x4 I
set_option maxRecDepth 100000 in
theorem tj_X9_folds_140 {G : Gt} (hG : Gok G) (hn : gn G = 104) (x1 : Int32) (x2 : Int32) (x3 : Int32) (I : Mem) : J G (mu_X9_folds G) 140 [some (.ref 89), some (.int x1), some (.int x2), some (.int x3), none] [] I (j_X9_folds_140 x1 x2 x3 I) := by
  unfold j_X9_folds_140
  refine J_iload_n (pc := 140) (x := x2) dX9_folds_140 rfl ?_
  refine J_if_eq (pc := 141) (tgt := 148) dX9_folds_141 (by decide) ?_ ?_
  · refine J_bipush (pc := 148) (v := (-2 : Int32)) dX9_folds_148 (by decide) ?_
    exact J_iret (pc := 150) dX9_folds_150
  · refine J_iload_n (pc := 144) (x := x3) dX9_folds_144 rfl ?_
    refine J_if_eq (pc := 145) (tgt := 151) dX9_folds_145 (by decide) ?_ ?_
    · refine J_aload_n (pc := 151) (x := 89) dX9_folds_151 rfl ?_
      refine J_callVv (pc := 152) (t := 9) (as := []) (st := []) (c_X9_note hG hn I) (ok_m hn 89 (by decide) rfl) (by decide) rfl (cw_RX9_109 rfl) wd_472 wd_471 rfl ⟨Nat.le_of_ble_eq_true rfl, Nat.le_of_ble_eq_true rfl, Nat.le_of_ble_eq_true rfl, Nat.le_of_ble_eq_true rfl⟩ (Nat.le_of_ble_eq_true rfl) rfl dX9_folds_152 (fun I15 => ?_)
      refine J_aload_n (pc := 155) (x := 89) dX9_folds_155 rfl ?_
      refine J_get (pc := 156) (t := 9) (k := 2) (.ref 91) (ok_m hn 89 (by decide) rfl) (by decide) rfl ingX9 (by decide) wd_467 rfl dX9_folds_156 ?_
      refine J_bipush (pc := 159) (v := (8 : Int32)) dX9_folds_159 (by decide) ?_
      refine J_iconst (pc := 161) (v := (5 : Int32)) dX9_folds_161 (by decide) ?_
      refine J_iload_n (pc := 162) (x := x1) dX9_folds_162 rfl ?_
      refine J_imul (pc := 163) dX9_folds_163 ?_
      refine J_iadd (pc := 164) dX9_folds_164 ?_
      refine J_aload_n (pc := 165) (x := 89) dX9_folds_165 rfl ?_
      refine J_get (pc := 166) (t := 9) (k := 0) (.int (I15 89 0)) (ok_m hn 89 (by decide) rfl) (by decide) rfl ingX9 (by decide) wd_429 rfl dX9_folds_166 ?_
      refine J_ck (fun hc16 => ?_)
      refine J_ist (pc := 169) (t := 31) (k := (tn ((8 : Int32) + ((5 : Int32) * x1)))) (ok_m hn 91 (by decide) rfl) iT_31 (inb_in hc16) rfl dX9_folds_169 ?_
      refine J_iconst (pc := 170) (v := (0 : Int32)) dX9_folds_170 (by decide) ?_
      refine J_istore (pc := 171) (ls' := [some (.ref 89), some (.int x1), some (.int x2), some (.int x3), some (.int (0 : Int32))]) dX9_folds_171 (Nat.le_of_ble_eq_true rfl) rfl rfl ?_
      refine J_weak (ls' := [some (.ref 89), some (.int x1), none, none, some (.int (0 : Int32))]) ⟨rfl, rfl, rfl, trivial⟩ ?_
      refine tl_X9_folds_173 hG hn (fun I20 => ?_) fuel x1 (0 : Int32) (stm I15 91 (tn ((8 : Int32) + ((5 : Int32) * x1))) (I15 89 0))
      · refine J_aload_n (pc := 221) (x := 89) dX9_folds_221 rfl ?_
        refine J_callVv (pc := 222) (t := 9) (as := []) (st := []) (c_X9_wholes hG hn I20) (ok_m hn 89 (by decide) rfl) (by decide) rfl (cw_RX9_112 rfl) wd_476 wd_475 rfl ⟨Nat.le_of_ble_eq_true rfl, Nat.le_of_ble_eq_true rfl, Nat.le_of_ble_eq_true rfl, Nat.le_of_ble_eq_true rfl⟩ (Nat.le_of_ble_eq_true rfl) rfl dX9_folds_222 (fun I21 => ?_)
        refine J_aload_n (pc := 225) (x := 89) dX9_folds_225 rfl ?_
        refine J_get (pc := 226) (t := 9) (k := 0) (.int (I21 89 0)) (ok_m hn 89 (by decide) rfl) (by decide) rfl ingX9 (by decide) wd_429 rfl dX9_folds_226 ?_
        exact J_iret (pc := 229) dX9_folds_229
    · refine J_bipush (pc := 148) (v := (-2 : Int32)) dX9_folds_148 (by decide) ?_
      exact J_iret (pc := 150) dX9_folds_150
set_option maxRecDepth 100000 in
theorem tj_X9_folds_46 {G : Gt} (hG : Gok G) (hn : gn G = 104) (x1 : Int32) (y0 : Int32) (I : Mem) : J G (mu_X9_folds G) 46 [some (.ref 89), some (.int x1), none, none, none] [.int y0] I (j_X9_folds_46 x1 y0 I) := by
  unfold j_X9_folds_46
  refine J_istore_n (pc := 46) (ls' := [some (.ref 89), some (.int x1), some (.int y0), none, none]) dX9_folds_46 (Nat.le_of_ble_eq_true rfl) rfl rfl ?_
  refine J_aload_n (pc := 47) (x := 89) dX9_folds_47 rfl ?_
  refine J_get (pc := 48) (t := 9) (k := 0) (.int (I 89 0)) (ok_m hn 89 (by decide) rfl) (by decide) rfl ingX9 (by decide) wd_429 rfl dX9_folds_48 ?_
  refine J_aload_n (pc := 51) (x := 89) dX9_folds_51 rfl ?_
  refine J_get (pc := 52) (t := 9) (k := 2) (.ref 91) (ok_m hn 89 (by decide) rfl) (by decide) rfl ingX9 (by decide) wd_467 rfl dX9_folds_52 ?_
  refine J_bipush (pc := 55) (v := (8 : Int32)) dX9_folds_55 (by decide) ?_
  refine J_iconst (pc := 57) (v := (5 : Int32)) dX9_folds_57 (by decide) ?_
  refine J_iload_n (pc := 58) (x := x1) dX9_folds_58 rfl ?_
  refine J_imul (pc := 59) dX9_folds_59 ?_
  refine J_iadd (pc := 60) dX9_folds_60 ?_
  refine J_ck (fun hc5 => ?_)
  refine J_ild (pc := 61) (t := 31) (k := (tn ((8 : Int32) + ((5 : Int32) * x1)))) (ok_m hn 91 (by decide) rfl) iT_31 (inb_in hc5) rfl dX9_folds_61 ?_
  refine J_icmp_ne (pc := 62) (tgt := 69) dX9_folds_62 (by decide) ?_ ?_
  · refine J_iconst (pc := 65) (v := (1 : Int32)) dX9_folds_65 (by decide) ?_
    refine J_goto (pc := 66) (tgt := 70) dX9_folds_66 (by decide) ?_
    refine J_istore_n (pc := 70) (ls' := [some (.ref 89), some (.int x1), some (.int y0), some (.int (1 : Int32)), none]) dX9_folds_70 (Nat.le_of_ble_eq_true rfl) rfl rfl ?_
    refine J_iconst (pc := 71) (v := (0 : Int32)) dX9_folds_71 (by decide) ?_
    refine J_istore (pc := 72) (ls' := [some (.ref 89), some (.int x1), some (.int y0), some (.int (1 : Int32)), some (.int (0 : Int32))]) dX9_folds_72 (Nat.le_of_ble_eq_true rfl) rfl rfl ?_
    refine tl_X9_folds_74 hG hn (fun z11 z12 z13 I14 => ?_) fuel x1 y0 (1 : Int32) (0 : Int32) I
    · exact tj_X9_folds_140 hG hn z11 z12 z13 I14
  · refine J_iconst (pc := 69) (v := (0 : Int32)) dX9_folds_69 (by decide) ?_
    refine J_istore_n (pc := 70) (ls' := [some (.ref 89), some (.int x1), some (.int y0), some (.int (0 : Int32)), none]) dX9_folds_70 (Nat.le_of_ble_eq_true rfl) rfl rfl ?_
    refine J_iconst (pc := 71) (v := (0 : Int32)) dX9_folds_71 (by decide) ?_
    refine J_istore (pc := 72) (ls' := [some (.ref 89), some (.int x1), some (.int y0), some (.int (0 : Int32)), some (.int (0 : Int32))]) dX9_folds_72 (Nat.le_of_ble_eq_true rfl) rfl rfl ?_
    refine tl_X9_folds_74 hG hn (fun z22 z23 z24 I25 => ?_) fuel x1 y0 (0 : Int32) (0 : Int32) I
    · exact tj_X9_folds_140 hG hn z22 z23 z24 I25
set_option maxRecDepth 100000 in
theorem c_X9_folds {G : Gt} (hG : Gok G) (hn : gn G = 104) (x1 : Int32) (I : Mem) : Cti G yX9_folds cX9_folds 5 (some .int) 2 46 [.ref 89, .int x1] I (f_X9_folds x1 I) := by
  refine Cti.of (ls := [some (.ref 89), some (.int x1), none, none, none]) 3 hG (by decide) rfl (Nat.le_of_ble_eq_true rfl) ?_
  unfold f_X9_folds
  refine J_aload_n (pc := 0) (x := 89) dX9_folds_0 rfl ?_
  refine J_iload_n (pc := 1) (x := x1) dX9_folds_1 rfl ?_
  refine J_callVi (pc := 2) (t := 9) (as := [.int x1]) (st := []) (c_X9_isScheme hG hn x1 I) (ok_m hn 89 (by decide) rfl) (by decide) rfl (cw_RX9_122 rfl) wd_485 wd_484 rfl ⟨Nat.le_of_ble_eq_true rfl, Nat.le_of_ble_eq_true rfl, Nat.le_of_ble_eq_true rfl, Nat.le_of_ble_eq_true rfl⟩ (Nat.le_of_ble_eq_true rfl) rfl dX9_folds_2 (fun r2 I1 => ?_)
  refine J_if_ne (pc := 5) (tgt := 10) dX9_folds_5 (by decide) ?_ ?_
  · refine J_iconst (pc := 8) (v := (-1 : Int32)) dX9_folds_8 (by decide) ?_
    exact J_iret (pc := 9) dX9_folds_9
  · refine J_aload_n (pc := 10) (x := 89) dX9_folds_10 rfl ?_
    refine J_get (pc := 11) (t := 9) (k := 0) (.int (I1 89 0)) (ok_m hn 89 (by decide) rfl) (by decide) rfl ingX9 (by decide) wd_429 rfl dX9_folds_11 ?_
    refine J_i2l (pc := 14) dX9_folds_14 ?_
    refine J_lconst (pc := 15) (v := (1 : Int64)) dX9_folds_15 (by decide) ?_
    refine J_ldc2 (pc := 16) (v := (4 : Int64)) wd_432 dX9_folds_16 ?_
    refine J_callSi (pc := 19) (as := [.long (((I1 89 0)).toInt64), .long (1 : Int64), .long (4 : Int64)]) (st := []) (c_X9_in hG hn (((I1 89 0)).toInt64) (1 : Int64) (4 : Int64) I1) (cw_RX9_57 rfl) wd_425 rfl ⟨Nat.le_of_ble_eq_true rfl, Nat.le_of_ble_eq_true rfl, Nat.le_of_ble_eq_true rfl, Nat.le_of_ble_eq_true rfl⟩ (Nat.le_of_ble_eq_true rfl) rfl dX9_folds_19 (fun r4 I3 => ?_)
    refine J_if_eq (pc := 22) (tgt := 45) dX9_folds_22 (by decide) ?_ ?_
    · refine J_iconst (pc := 45) (v := (0 : Int32)) dX9_folds_45 (by decide) ?_
      exact tj_X9_folds_46 hG hn x1 (0 : Int32) I3
    · refine J_aload_n (pc := 25) (x := 89) dX9_folds_25 rfl ?_
      refine J_aload_n (pc := 26) (x := 89) dX9_folds_26 rfl ?_
      refine J_get (pc := 27) (t := 9) (k := 0) (.int (I3 89 0)) (ok_m hn 89 (by decide) rfl) (by decide) rfl ingX9 (by decide) wd_429 rfl dX9_folds_27 ?_
      refine J_iconst (pc := 30) (v := (1 : Int32)) dX9_folds_30 (by decide) ?_
      refine J_isub (pc := 31) dX9_folds_31 ?_
      refine J_callVi (pc := 32) (t := 9) (as := [.int ((I3 89 0) - (1 : Int32))]) (st := []) (c_X9_byteAt hG hn ((I3 89 0) - (1 : Int32)) I3) (ok_m hn 89 (by decide) rfl) (by decide) rfl (cw_RX9_68 rfl) wd_436 wd_435 rfl ⟨Nat.le_of_ble_eq_true rfl, Nat.le_of_ble_eq_true rfl, Nat.le_of_ble_eq_true rfl, Nat.le_of_ble_eq_true rfl⟩ (Nat.le_of_ble_eq_true rfl) rfl dX9_folds_32 (fun r27 I26 => ?_)
      refine J_callSi (pc := 35) (as := [.int r27]) (st := []) (c_X9_isSide hG hn r27 I26) (cw_RX9_80 rfl) wd_452 rfl ⟨Nat.le_of_ble_eq_true rfl, Nat.le_of_ble_eq_true rfl, Nat.le_of_ble_eq_true rfl, Nat.le_of_ble_eq_true rfl⟩ (Nat.le_of_ble_eq_true rfl) rfl dX9_folds_35 (fun r29 I28 => ?_)
      refine J_if_eq (pc := 38) (tgt := 45) dX9_folds_38 (by decide) ?_ ?_
      · refine J_iconst (pc := 45) (v := (0 : Int32)) dX9_folds_45 (by decide) ?_
        exact tj_X9_folds_46 hG hn x1 (0 : Int32) I28
      · refine J_iconst (pc := 41) (v := (1 : Int32)) dX9_folds_41 (by decide) ?_
        refine J_goto (pc := 42) (tgt := 46) dX9_folds_42 (by decide) ?_
        exact tj_X9_folds_46 hG hn x1 (1 : Int32) I28
