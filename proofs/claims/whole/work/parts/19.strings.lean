/-- where a letter stands in a text, -1 if nowhere -/
def sidx (j : Nat) (x : Int32) : Int32 := match (sby.getD j []).findIdx? (fun b => b == x) with
  | some k => nI k
  | none => -1
def sch (j : Nat) (i : Int32) : Int32 := (sby.getD j []).getD (tn i) 0
def slg (j : Nat) : Int32 := nI (sln.getD j 0)
def fpci (x n : Int32) (I : Mem) : Option (Int32 × Mem) := if x < 0 then none else if x < n then some (x, I) else none
theorem c_pci_n {G : Gt} (hG : Gok G) (x n : Int32) (I : Mem) : Cti G yJ3_checkIndex_8e157 cJ3_checkIndex_8e157 3 (some .int) 0 0 [.int x, .int n, .null] I (fpci x n I) := by
  refine Cti.of (ls := [some (.int x), some (.int n), some .null]) 0 hG (by decide) rfl (Nat.le_of_ble_eq_true rfl) ?_
  unfold fpci
  refine J_iload_n (pc := 0) (x := x) dJ3_checkIndex_8e157_0 rfl ?_
  refine J_if_lt (pc := 1) (tgt := 9) dJ3_checkIndex_8e157_1 (by decide) J_none ?_
  refine J_iload_n (pc := 4) (x := x) dJ3_checkIndex_8e157_4 rfl ?_
  refine J_iload_n (pc := 5) (x := n) dJ3_checkIndex_8e157_5 rfl ?_
  refine J_icmp_lt (pc := 6) (tgt := 16) dJ3_checkIndex_8e157_6 (by decide) ?_ J_none
  refine J_iload_n (pc := 16) (x := x) dJ3_checkIndex_8e157_16 rfl ?_
  exact J_iret (pc := 17) dJ3_checkIndex_8e157_17
theorem c_pci_r {G : Gt} (hG : Gok G) (x n : Int32) (I : Mem) : Cti G yJ3_checkIndex_8e157 cJ3_checkIndex_8e157 3 (some .int) 0 0 [.int x, .int n, .ref 1030] I (fpci x n I) := by
  refine Cti.of (ls := [some (.int x), some (.int n), some (.ref 1030)]) 0 hG (by decide) rfl (Nat.le_of_ble_eq_true rfl) ?_
  unfold fpci
  refine J_iload_n (pc := 0) (x := x) dJ3_checkIndex_8e157_0 rfl ?_
  refine J_if_lt (pc := 1) (tgt := 9) dJ3_checkIndex_8e157_1 (by decide) J_none ?_
  refine J_iload_n (pc := 4) (x := x) dJ3_checkIndex_8e157_4 rfl ?_
  refine J_iload_n (pc := 5) (x := n) dJ3_checkIndex_8e157_5 rfl ?_
  refine J_icmp_lt (pc := 6) (tgt := 16) dJ3_checkIndex_8e157_6 (by decide) ?_ J_none
  refine J_iload_n (pc := 16) (x := x) dJ3_checkIndex_8e157_16 rfl ?_
  exact J_iret (pc := 17) dJ3_checkIndex_8e157_17
def fsci (x n : Int32) (I : Mem) : Option Mem := bI (fpci x n I) fun _ I1 => some I1
theorem c_sci {G : Gt} (hG : Gok G) (hn : Gn G) (x n : Int32) (I : Mem) : Ctv G yJ0_checkIndex_df160 cJ0_checkIndex_df160 2 1 22 [.int x, .int n] I (fsci x n I) := by
  refine Ctv.of (ls := [some (.int x), some (.int n)]) 0 hG (by decide) rfl (Nat.le_of_ble_eq_true rfl) ?_
  unfold fsci
  refine J_iload_n (pc := 0) (x := x) dJ0_checkIndex_df160_0 rfl ?_
  refine J_iload_n (pc := 1) (x := n) dJ0_checkIndex_df160_1 rfl ?_
  refine J_gfm (pc := 2) wd_633 dJ0_checkIndex_df160_2 ?_ ?_
  · refine J_callSi (pc := 5) (as := [.int x, .int n, .null]) (st := []) (c_pci_n hG x n I) (cw_RJ0_1059 rfl) wd_637 rfl ⟨Nat.le_of_ble_eq_true rfl, Nat.le_of_ble_eq_true rfl, Nat.le_of_ble_eq_true rfl, Nat.le_of_ble_eq_true rfl⟩ (Nat.le_of_ble_eq_true rfl) rfl dJ0_checkIndex_df160_5 (fun r I1 => ?_)
    refine J_popI (pc := 8) dJ0_checkIndex_df160_8 ?_
    exact J_vret (pc := 9) dJ0_checkIndex_df160_9
  · refine J_callSi (pc := 5) (as := [.int x, .int n, .ref 1030]) (st := []) (c_pci_r hG x n I) (cw_RJ0_1059 rfl) wd_637 rfl ⟨Nat.le_of_ble_eq_true rfl, Nat.le_of_ble_eq_true rfl, Nat.le_of_ble_eq_true rfl, Nat.le_of_ble_eq_true rfl⟩ (Nat.le_of_ble_eq_true rfl) rfl dJ0_checkIndex_df160_5 (fun r I1 => ?_)
    refine J_popI (pc := 8) dJ0_checkIndex_df160_8 ?_
    exact J_vret (pc := 9) dJ0_checkIndex_df160_9
abbrev mu_J0_isLatin1_aae02_1010 (G : Gt) : Mt (Int32 × Mem) := mi G cJ0_isLatin1_aae02 1 yJ0_isLatin1_aae02.cls (some .boolean) 0 0
def f_J0_isLatin1_aae02_1010 (I : Mem) : Option (Int32 × Mem) :=
  (if (1 : Int32) = 0 then some ((0 : Int32), I) else (if (0 : Int32) = 0 then some ((1 : Int32), I) else some ((0 : Int32), I)))
set_option maxRecDepth 100000 in
theorem c_J0_isLatin1_aae02_1010 {G : Gt} (hG : Gok G) (hn : Gn G) (I : Mem) : Cti G yJ0_isLatin1_aae02 cJ0_isLatin1_aae02 1 (some .boolean) 0 0 [.ref 1010] I (f_J0_isLatin1_aae02_1010 I) := by
  refine Cti.of (ls := [some (.ref 1010)]) 0 hG (by decide) rfl (Nat.le_of_ble_eq_true rfl) ?_
  unfold f_J0_isLatin1_aae02_1010
  refine J_gcs (pc := 0) wd_594 dJ0_isLatin1_aae02_0 ?_
  refine J_if_eq (pc := 3) (tgt := 17) dJ0_isLatin1_aae02_3 (by decide) ?_ ?_
  · refine J_iconst (pc := 17) (v := (0 : Int32)) dJ0_isLatin1_aae02_17 (by decide) ?_
    exact J_zret (pc := 18) rfl dJ0_isLatin1_aae02_18
  · refine J_aload_n (pc := 6) (x := 1010) dJ0_isLatin1_aae02_6 rfl ?_
    refine J_gco (pc := 7) (j := 0) (by decide) wd_595 dJ0_isLatin1_aae02_7 ?_
    refine J_if_ne (pc := 10) (tgt := 17) dJ0_isLatin1_aae02_10 (by decide) ?_ ?_
    · refine J_iconst (pc := 13) (v := (1 : Int32)) dJ0_isLatin1_aae02_13 (by decide) ?_
      refine J_goto (pc := 14) (tgt := 18) dJ0_isLatin1_aae02_14 (by decide) ?_
      exact J_zret (pc := 18) rfl dJ0_isLatin1_aae02_18
    · refine J_iconst (pc := 17) (v := (0 : Int32)) dJ0_isLatin1_aae02_17 (by decide) ?_
      exact J_zret (pc := 18) rfl dJ0_isLatin1_aae02_18
abbrev mu_J0_coder_7d493_1010 (G : Gt) : Mt (Int32 × Mem) := mi G cJ0_coder_7d493 1 yJ0_coder_7d493.cls (some .byte) 0 0
def f_J0_coder_7d493_1010 (I : Mem) : Option (Int32 × Mem) :=
  (if (1 : Int32) = 0 then some ((1 : Int32), I) else some ((0 : Int32), I))
set_option maxRecDepth 100000 in
theorem c_J0_coder_7d493_1010 {G : Gt} (hG : Gok G) (hn : Gn G) (I : Mem) : Cti G yJ0_coder_7d493 cJ0_coder_7d493 1 (some .byte) 0 0 [.ref 1010] I (f_J0_coder_7d493_1010 I) := by
  refine Cti.of (ls := [some (.ref 1010)]) 0 hG (by decide) rfl (Nat.le_of_ble_eq_true rfl) ?_
  unfold f_J0_coder_7d493_1010
  refine J_gcs (pc := 0) wd_594 dJ0_coder_7d493_0 ?_
  refine J_if_eq (pc := 3) (tgt := 13) dJ0_coder_7d493_3 (by decide) ?_ ?_
  · refine J_iconst (pc := 13) (v := (1 : Int32)) dJ0_coder_7d493_13 (by decide) ?_
    exact J_zret (pc := 14) rfl dJ0_coder_7d493_14
  · refine J_aload_n (pc := 6) (x := 1010) dJ0_coder_7d493_6 rfl ?_
    refine J_gco (pc := 7) (j := 0) (by decide) wd_595 dJ0_coder_7d493_7 ?_
    refine J_goto (pc := 10) (tgt := 14) dJ0_coder_7d493_10 (by decide) ?_
    exact J_zret (pc := 14) rfl dJ0_coder_7d493_14
abbrev mu_J0_length_8abf5_1010 (G : Gt) : Mt (Int32 × Mem) := mi G cJ0_length_8abf5 1 yJ0_length_8abf5.cls (some .int) 1 20
def f_J0_length_8abf5_1010 (I : Mem) : Option (Int32 × Mem) :=
  bI (f_J0_coder_7d493_1010 I) fun r2 I1 => some (((nI (sln.getD 0 0)) >>> (r2 &&& 31)), I1)
set_option maxRecDepth 100000 in
theorem c_J0_length_8abf5_1010 {G : Gt} (hG : Gok G) (hn : Gn G) (I : Mem) : Cti G yJ0_length_8abf5 cJ0_length_8abf5 1 (some .int) 1 20 [.ref 1010] I (f_J0_length_8abf5_1010 I) := by
  refine Cti.of (ls := [some (.ref 1010)]) 0 hG (by decide) rfl (Nat.le_of_ble_eq_true rfl) ?_
  unfold f_J0_length_8abf5_1010
  refine J_aload_n (pc := 0) (x := 1010) dJ0_length_8abf5_0 rfl ?_
  refine J_gva (pc := 1) (j := 0) (by decide) wd_600 dJ0_length_8abf5_1 ?_
  refine J_tln (pc := 4) (j := 0) (by decide) dJ0_length_8abf5_4 ?_
  refine J_aload_n (pc := 5) (x := 1010) dJ0_length_8abf5_5 rfl ?_
  refine J_callTi (pc := 6) (j := 0) (as := []) (st := [.int (nI (sln.getD 0 0))]) (c_J0_coder_7d493_1010 hG hn I) (by decide) (cw_RJ0_335 rfl) wd_602 wd_601 rfl ⟨Nat.le_of_ble_eq_true rfl, Nat.le_of_ble_eq_true rfl, Nat.le_of_ble_eq_true rfl, Nat.le_of_ble_eq_true rfl⟩ (Nat.le_of_ble_eq_true rfl) rfl dJ0_length_8abf5_6 (fun r2 I1 => ?_)
  refine J_ishr (pc := 9) dJ0_length_8abf5_9 ?_
  exact J_iret (pc := 10) dJ0_length_8abf5_10
abbrev mu_J1_canEncode_9a6ad (G : Gt) : Mt (Int32 × Mem) := mi G cJ1_canEncode_9a6ad 1 yJ1_canEncode_9a6ad.cls (some .boolean) 0 0
def f_J1_canEncode_9a6ad (x0 : Int32) (I : Mem) : Option (Int32 × Mem) :=
  (if x0 < 0 then some ((0 : Int32), I) else (if (255 : Int32) < x0 then some ((0 : Int32), I) else some ((1 : Int32), I)))
set_option maxRecDepth 100000 in
theorem c_J1_canEncode_9a6ad {G : Gt} (hG : Gok G) (hn : Gn G) (x0 : Int32) (I : Mem) : Cti G yJ1_canEncode_9a6ad cJ1_canEncode_9a6ad 1 (some .boolean) 0 0 [.int x0] I (f_J1_canEncode_9a6ad x0 I) := by
  refine Cti.of (ls := [some (.int x0)]) 0 hG (by decide) rfl (Nat.le_of_ble_eq_true rfl) ?_
  unfold f_J1_canEncode_9a6ad
  refine J_iload_n (pc := 0) (x := x0) dJ1_canEncode_9a6ad_0 rfl ?_
  refine J_if_lt (pc := 1) (tgt := 15) dJ1_canEncode_9a6ad_1 (by decide) ?_ ?_
  · refine J_iconst (pc := 15) (v := (0 : Int32)) dJ1_canEncode_9a6ad_15 (by decide) ?_
    exact J_zret (pc := 16) rfl dJ1_canEncode_9a6ad_16
  · refine J_iload_n (pc := 4) (x := x0) dJ1_canEncode_9a6ad_4 rfl ?_
    refine J_sipush (pc := 5) (v := (255 : Int32)) dJ1_canEncode_9a6ad_5 (by decide) ?_
    refine J_icmp_gt (pc := 8) (tgt := 15) dJ1_canEncode_9a6ad_8 (by decide) ?_ ?_
    · refine J_iconst (pc := 15) (v := (0 : Int32)) dJ1_canEncode_9a6ad_15 (by decide) ?_
      exact J_zret (pc := 16) rfl dJ1_canEncode_9a6ad_16
    · refine J_iconst (pc := 11) (v := (1 : Int32)) dJ1_canEncode_9a6ad_11 (by decide) ?_
      refine J_goto (pc := 12) (tgt := 16) dJ1_canEncode_9a6ad_12 (by decide) ?_
      exact J_zret (pc := 16) rfl dJ1_canEncode_9a6ad_16
abbrev mu_J1_indexOfChar_4cfef_1020 (G : Gt) : Mt (Int32 × Mem) := mi G cJ1_indexOfChar_4cfef 6 yJ1_indexOfChar_4cfef.cls (some .int) 0 0
def b_J1_indexOfChar_4cfef_1020_7 (K22 : Int32 → Mem → Option (Int32 × Mem)) (K31 : Mem → Option (Int32 × Mem)) (R : Int32 → Int32 → Int32 → Mem → Option (Int32 × Mem)) (x3 : Int32) (x4 : Int32) (x5 : Int32) (I : Mem) : Option (Int32 × Mem) :=
  (if x3 ≤ x5 then K31 I else ck (inb x5 (sln.getD 0 0)) <| (if ((sby.getD 0 []).getD (tn x5) 0) = x4 then K22 x5 I else R x3 x4 (x5 + (1 : Int32)) I))
def l_J1_indexOfChar_4cfef_1020_7 (K22 : Int32 → Mem → Option (Int32 × Mem)) (K31 : Mem → Option (Int32 × Mem)) : Nat → Int32 → Int32 → Int32 → Mem → Option (Int32 × Mem) := fx (b_J1_indexOfChar_4cfef_1020_7 K22 K31) (fun _ _ _ _ => none)
def f_J1_indexOfChar_4cfef_1020 (x1 : Int32) (x2 : Int32) (x3 : Int32) (I : Mem) : Option (Int32 × Mem) :=
  l_J1_indexOfChar_4cfef_1020_7 (fun (z2 : Int32) I3 => some (z2, I3)) (fun I4 => some ((-1 : Int32), I4)) fuel x3 ((x1).toInt8.toInt32) x2 I
set_option maxRecDepth 100000 in
theorem tb_J1_indexOfChar_4cfef_1020_7 {G : Gt} (hG : Gok G) (hn : Gn G) {K22 : Int32 → Mem → Option (Int32 × Mem)} (hK22 : ∀ (x5 : Int32) (I : Mem), J G (mu_J1_indexOfChar_4cfef_1020 G) 22 [none, none, none, none, none, some (.int x5)] [] I (K22 x5 I)) {K31 : Mem → Option (Int32 × Mem)} (hK31 : ∀ (I : Mem), J G (mu_J1_indexOfChar_4cfef_1020 G) 31 [none, none, none, none, none, none] [] I (K31 I)) {R : Int32 → Int32 → Int32 → Mem → Option (Int32 × Mem)} (hR : ∀ (x3 : Int32) (x4 : Int32) (x5 : Int32) (I : Mem), J G (mu_J1_indexOfChar_4cfef_1020 G) 7 [some (.ref 1020), none, none, some (.int x3), some (.int x4), some (.int x5)] [] I (R x3 x4 x5 I)) (x3 : Int32) (x4 : Int32) (x5 : Int32) (I : Mem) : J G (mu_J1_indexOfChar_4cfef_1020 G) 7 [some (.ref 1020), none, none, some (.int x3), some (.int x4), some (.int x5)] [] I (b_J1_indexOfChar_4cfef_1020_7 K22 K31 R x3 x4 x5 I) := by
  unfold b_J1_indexOfChar_4cfef_1020_7
  refine J_iload (pc := 7) (x := x5) dJ1_indexOfChar_4cfef_7 rfl ?_
  refine J_iload_n (pc := 9) (x := x3) dJ1_indexOfChar_4cfef_9 rfl ?_
  refine J_icmp_ge (pc := 10) (tgt := 31) dJ1_indexOfChar_4cfef_10 (by decide) ?_ ?_
  · refine J_weak (ls' := [none, none, none, none, none, none]) trivial ?_
    exact hK31 I
  · refine J_aload_n (pc := 13) (x := 1020) dJ1_indexOfChar_4cfef_13 rfl ?_
    refine J_iload (pc := 14) (x := x5) dJ1_indexOfChar_4cfef_14 rfl ?_
    refine J_ck (fun hc1 => ?_)
    refine J_bld (pc := 16) (j := 0) (k := (tn x5)) (by decide) (inb_in hc1) rfl dJ1_indexOfChar_4cfef_16 ?_
    refine J_iload (pc := 17) (x := x4) dJ1_indexOfChar_4cfef_17 rfl ?_
    refine J_icmp_ne (pc := 19) (tgt := 25) dJ1_indexOfChar_4cfef_19 (by decide) ?_ ?_
    · refine J_weak (ls' := [none, none, none, none, none, some (.int x5)]) ⟨rfl, trivial⟩ ?_
      exact hK22 x5 I
    · refine J_iinc (pc := 25) (d := (1 : Int32)) (ls' := [some (.ref 1020), none, none, some (.int x3), some (.int x4), some (.int (x5 + (1 : Int32)))]) dJ1_indexOfChar_4cfef_25 (by decide) rfl (Nat.le_of_ble_eq_true rfl) rfl rfl ?_
      refine J_goto (pc := 28) (tgt := 7) dJ1_indexOfChar_4cfef_28 (by decide) ?_
      exact hR x3 x4 (x5 + (1 : Int32)) I
theorem tl_J1_indexOfChar_4cfef_1020_7 {G : Gt} (hG : Gok G) (hn : Gn G) {K22 : Int32 → Mem → Option (Int32 × Mem)} (hK22 : ∀ (x5 : Int32) (I : Mem), J G (mu_J1_indexOfChar_4cfef_1020 G) 22 [none, none, none, none, none, some (.int x5)] [] I (K22 x5 I)) {K31 : Mem → Option (Int32 × Mem)} (hK31 : ∀ (I : Mem), J G (mu_J1_indexOfChar_4cfef_1020 G) 31 [none, none, none, none, none, none] [] I (K31 I)) (n : Nat) : ∀ (x3 : Int32) (x4 : Int32) (x5 : Int32) (I : Mem), J G (mu_J1_indexOfChar_4cfef_1020 G) 7 [some (.ref 1020), none, none, some (.int x3), some (.int x4), some (.int x5)] [] I (l_J1_indexOfChar_4cfef_1020_7 K22 K31 n x3 x4 x5 I) := by
  induction n with
  | zero => intro x3 x4 x5 I; exact J_none
  | succ n ih => intro x3 x4 x5 I; exact tb_J1_indexOfChar_4cfef_1020_7 hG hn hK22 hK31 ih x3 x4 x5 I
set_option maxRecDepth 100000 in
theorem c_J1_indexOfChar_4cfef_1020 {G : Gt} (hG : Gok G) (hn : Gn G) (x1 : Int32) (x2 : Int32) (x3 : Int32) (I : Mem) : Cti G yJ1_indexOfChar_4cfef cJ1_indexOfChar_4cfef 6 (some .int) 0 0 [.ref 1020, .int x1, .int x2, .int x3] I (f_J1_indexOfChar_4cfef_1020 x1 x2 x3 I) := by
  refine Cti.of (ls := [some (.ref 1020), some (.int x1), some (.int x2), some (.int x3), none, none]) 2 hG (by decide) rfl (Nat.le_of_ble_eq_true rfl) ?_
  unfold f_J1_indexOfChar_4cfef_1020
  refine J_iload_n (pc := 0) (x := x1) dJ1_indexOfChar_4cfef_0 rfl ?_
  refine J_i2b (pc := 1) dJ1_indexOfChar_4cfef_1 ?_
  refine J_istore (pc := 2) (ls' := [some (.ref 1020), some (.int x1), some (.int x2), some (.int x3), some (.int ((x1).toInt8.toInt32)), none]) dJ1_indexOfChar_4cfef_2 (Nat.le_of_ble_eq_true rfl) rfl rfl ?_
  refine J_iload_n (pc := 4) (x := x2) dJ1_indexOfChar_4cfef_4 rfl ?_
  refine J_istore (pc := 5) (ls' := [some (.ref 1020), some (.int x1), some (.int x2), some (.int x3), some (.int ((x1).toInt8.toInt32)), some (.int x2)]) dJ1_indexOfChar_4cfef_5 (Nat.le_of_ble_eq_true rfl) rfl rfl ?_
  refine J_weak (ls' := [some (.ref 1020), none, none, some (.int x3), some (.int ((x1).toInt8.toInt32)), some (.int x2)]) ⟨rfl, rfl, rfl, rfl, trivial⟩ ?_
  refine tl_J1_indexOfChar_4cfef_1020_7 hG hn (fun z2 I3 => ?_) (fun I4 => ?_) fuel x3 ((x1).toInt8.toInt32) x2 I
  · refine J_iload (pc := 22) (x := z2) dJ1_indexOfChar_4cfef_22 rfl ?_
    exact J_iret (pc := 24) dJ1_indexOfChar_4cfef_24
  · refine J_iconst (pc := 31) (v := (-1 : Int32)) dJ1_indexOfChar_4cfef_31 (by decide) ?_
    exact J_iret (pc := 32) dJ1_indexOfChar_4cfef_32
abbrev mu_J1_indexOf_4cfef_1020 (G : Gt) : Mt (Int32 × Mem) := mi G cJ1_indexOf_4cfef 4 yJ1_indexOf_4cfef.cls (some .int) 1 25
def f_J1_indexOf_4cfef_1020 (x1 : Int32) (x2 : Int32) (x3 : Int32) (I : Mem) : Option (Int32 × Mem) :=
  bI (f_J1_canEncode_9a6ad x1 I) fun r2 I1 => (if r2 = 0 then some ((-1 : Int32), I1) else (if (if x2 < (0 : Int32) then (0 : Int32) else x2) < (if (nI (sln.getD 0 0)) < x3 then (nI (sln.getD 0 0)) else x3) then bI (f_J1_indexOfChar_4cfef_1020 x1 (if x2 < (0 : Int32) then (0 : Int32) else x2) (if (nI (sln.getD 0 0)) < x3 then (nI (sln.getD 0 0)) else x3) I1) fun r4 I3 => some (r4, I3) else some ((-1 : Int32), I1)))
set_option maxRecDepth 100000 in
theorem c_J1_indexOf_4cfef_1020 {G : Gt} (hG : Gok G) (hn : Gn G) (x1 : Int32) (x2 : Int32) (x3 : Int32) (I : Mem) : Cti G yJ1_indexOf_4cfef cJ1_indexOf_4cfef 4 (some .int) 1 25 [.ref 1020, .int x1, .int x2, .int x3] I (f_J1_indexOf_4cfef_1020 x1 x2 x3 I) := by
  refine Cti.of (ls := [some (.ref 1020), some (.int x1), some (.int x2), some (.int x3)]) 0 hG (by decide) rfl (Nat.le_of_ble_eq_true rfl) ?_
  unfold f_J1_indexOf_4cfef_1020
  refine J_iload_n (pc := 0) (x := x1) dJ1_indexOf_4cfef_0 rfl ?_
  refine J_callSi (pc := 1) (as := [.int x1]) (st := []) (c_J1_canEncode_9a6ad hG hn x1 I) (cw_RJ1_88 rfl) wd_609 rfl ⟨Nat.le_of_ble_eq_true rfl, Nat.le_of_ble_eq_true rfl, Nat.le_of_ble_eq_true rfl, Nat.le_of_ble_eq_true rfl⟩ (Nat.le_of_ble_eq_true rfl) rfl dJ1_indexOf_4cfef_1 (fun r2 I1 => ?_)
  refine J_if_ne (pc := 4) (tgt := 9) dJ1_indexOf_4cfef_4 (by decide) ?_ ?_
  · refine J_iconst (pc := 7) (v := (-1 : Int32)) dJ1_indexOf_4cfef_7 (by decide) ?_
    exact J_iret (pc := 8) dJ1_indexOf_4cfef_8
  · refine J_iload_n (pc := 9) (x := x2) dJ1_indexOf_4cfef_9 rfl ?_
    refine J_iconst (pc := 10) (v := (0 : Int32)) dJ1_indexOf_4cfef_10 (by decide) ?_
    refine J_max (pc := 11) wd_613 wd_614 wd_94 wd_615 ⟨Nat.le_of_ble_eq_true rfl, Nat.le_of_ble_eq_true rfl⟩ ⟨Nat.le_of_ble_eq_true rfl, Nat.le_of_ble_eq_true rfl⟩ dJ1_indexOf_4cfef_11 ?_
    refine J_istore_n (pc := 14) (ls' := [some (.ref 1020), some (.int x1), some (.int (if x2 < (0 : Int32) then (0 : Int32) else x2)), some (.int x3)]) dJ1_indexOf_4cfef_14 (Nat.le_of_ble_eq_true rfl) rfl rfl ?_
    refine J_iload_n (pc := 15) (x := x3) dJ1_indexOf_4cfef_15 rfl ?_
    refine J_aload_n (pc := 16) (x := 1020) dJ1_indexOf_4cfef_16 rfl ?_
    refine J_tln (pc := 17) (j := 0) (by decide) dJ1_indexOf_4cfef_17 ?_
    refine J_min (pc := 18) wd_616 wd_93 wd_94 wd_95 ⟨Nat.le_of_ble_eq_true rfl, Nat.le_of_ble_eq_true rfl⟩ ⟨Nat.le_of_ble_eq_true rfl, Nat.le_of_ble_eq_true rfl⟩ dJ1_indexOf_4cfef_18 ?_
    refine J_istore_n (pc := 21) (ls' := [some (.ref 1020), some (.int x1), some (.int (if x2 < (0 : Int32) then (0 : Int32) else x2)), some (.int (if (nI (sln.getD 0 0)) < x3 then (nI (sln.getD 0 0)) else x3))]) dJ1_indexOf_4cfef_21 (Nat.le_of_ble_eq_true rfl) rfl rfl ?_
    refine J_iload_n (pc := 22) (x := (if x2 < (0 : Int32) then (0 : Int32) else x2)) dJ1_indexOf_4cfef_22 rfl ?_
    refine J_iload_n (pc := 23) (x := (if (nI (sln.getD 0 0)) < x3 then (nI (sln.getD 0 0)) else x3)) dJ1_indexOf_4cfef_23 rfl ?_
    refine J_icmp_lt (pc := 24) (tgt := 29) dJ1_indexOf_4cfef_24 (by decide) ?_ ?_
    · refine J_aload_n (pc := 29) (x := 1020) dJ1_indexOf_4cfef_29 rfl ?_
      refine J_iload_n (pc := 30) (x := x1) dJ1_indexOf_4cfef_30 rfl ?_
      refine J_iload_n (pc := 31) (x := (if x2 < (0 : Int32) then (0 : Int32) else x2)) dJ1_indexOf_4cfef_31 rfl ?_
      refine J_iload_n (pc := 32) (x := (if (nI (sln.getD 0 0)) < x3 then (nI (sln.getD 0 0)) else x3)) dJ1_indexOf_4cfef_32 rfl ?_
      refine J_callSi (pc := 33) (as := [.ref 1020, .int x1, .int (if x2 < (0 : Int32) then (0 : Int32) else x2), .int (if (nI (sln.getD 0 0)) < x3 then (nI (sln.getD 0 0)) else x3)]) (st := []) (c_J1_indexOfChar_4cfef_1020 hG hn x1 (if x2 < (0 : Int32) then (0 : Int32) else x2) (if (nI (sln.getD 0 0)) < x3 then (nI (sln.getD 0 0)) else x3) I1) (cw_RJ1_95 rfl) wd_617 rfl ⟨Nat.le_of_ble_eq_true rfl, Nat.le_of_ble_eq_true rfl, Nat.le_of_ble_eq_true rfl, Nat.le_of_ble_eq_true rfl⟩ (Nat.le_of_ble_eq_true rfl) rfl dJ1_indexOf_4cfef_33 (fun r4 I3 => ?_)
      exact J_iret (pc := 36) dJ1_indexOf_4cfef_36
    · refine J_iconst (pc := 27) (v := (-1 : Int32)) dJ1_indexOf_4cfef_27 (by decide) ?_
      exact J_iret (pc := 28) dJ1_indexOf_4cfef_28
abbrev mu_J0_indexOf_7cf53_1010 (G : Gt) : Mt (Int32 × Mem) := mi G cJ0_indexOf_7cf53 3 yJ0_indexOf_7cf53.cls (some .int) 2 48
def f_J0_indexOf_7cf53_1010 (x1 : Int32) (x2 : Int32) (I : Mem) : Option (Int32 × Mem) :=
  bI (f_J0_isLatin1_aae02_1010 I) fun r2 I1 => (if r2 = 0 then bI (f_J0_length_8abf5_1010 I1) fun r4 I3 => none else bI (f_J0_length_8abf5_1010 I1) fun r6 I5 => bI (f_J1_indexOf_4cfef_1020 x1 x2 r6 I5) fun r8 I7 => some (r8, I7))
set_option maxRecDepth 100000 in
theorem c_J0_indexOf_7cf53_1010 {G : Gt} (hG : Gok G) (hn : Gn G) (x1 : Int32) (x2 : Int32) (I : Mem) : Cti G yJ0_indexOf_7cf53 cJ0_indexOf_7cf53 3 (some .int) 2 48 [.ref 1010, .int x1, .int x2] I (f_J0_indexOf_7cf53_1010 x1 x2 I) := by
  refine Cti.of (ls := [some (.ref 1010), some (.int x1), some (.int x2)]) 0 hG (by decide) rfl (Nat.le_of_ble_eq_true rfl) ?_
  unfold f_J0_indexOf_7cf53_1010
  refine J_aload_n (pc := 0) (x := 1010) dJ0_indexOf_7cf53_0 rfl ?_
  refine J_callTi (pc := 1) (j := 0) (as := []) (st := []) (c_J0_isLatin1_aae02_1010 hG hn I) (by decide) (cw_RJ0_492 rfl) wd_597 wd_596 rfl ⟨Nat.le_of_ble_eq_true rfl, Nat.le_of_ble_eq_true rfl, Nat.le_of_ble_eq_true rfl, Nat.le_of_ble_eq_true rfl⟩ (Nat.le_of_ble_eq_true rfl) rfl dJ0_indexOf_7cf53_1 (fun r2 I1 => ?_)
  refine J_if_eq (pc := 4) (tgt := 23) dJ0_indexOf_7cf53_4 (by decide) ?_ ?_
  · refine J_aload_n (pc := 23) (x := 1010) dJ0_indexOf_7cf53_23 rfl ?_
    refine J_gva (pc := 24) (j := 0) (by decide) wd_600 dJ0_indexOf_7cf53_24 ?_
    refine J_iload_n (pc := 27) (x := x1) dJ0_indexOf_7cf53_27 rfl ?_
    refine J_iload_n (pc := 28) (x := x2) dJ0_indexOf_7cf53_28 rfl ?_
    refine J_aload_n (pc := 29) (x := 1010) dJ0_indexOf_7cf53_29 rfl ?_
    refine J_callTi (pc := 30) (j := 0) (as := []) (st := [.int x2, .int x1, .ref 1020]) (c_J0_length_8abf5_1010 hG hn I1) (by decide) (cw_RJ0_505 rfl) wd_606 wd_605 rfl ⟨Nat.le_of_ble_eq_true rfl, Nat.le_of_ble_eq_true rfl, Nat.le_of_ble_eq_true rfl, Nat.le_of_ble_eq_true rfl⟩ (Nat.le_of_ble_eq_true rfl) rfl dJ0_indexOf_7cf53_30 (fun r4 I3 => ?_)
    exact J_none
  · refine J_aload_n (pc := 7) (x := 1010) dJ0_indexOf_7cf53_7 rfl ?_
    refine J_gva (pc := 8) (j := 0) (by decide) wd_600 dJ0_indexOf_7cf53_8 ?_
    refine J_iload_n (pc := 11) (x := x1) dJ0_indexOf_7cf53_11 rfl ?_
    refine J_iload_n (pc := 12) (x := x2) dJ0_indexOf_7cf53_12 rfl ?_
    refine J_aload_n (pc := 13) (x := 1010) dJ0_indexOf_7cf53_13 rfl ?_
    refine J_callTi (pc := 14) (j := 0) (as := []) (st := [.int x2, .int x1, .ref 1020]) (c_J0_length_8abf5_1010 hG hn I1) (by decide) (cw_RJ0_505 rfl) wd_606 wd_605 rfl ⟨Nat.le_of_ble_eq_true rfl, Nat.le_of_ble_eq_true rfl, Nat.le_of_ble_eq_true rfl, Nat.le_of_ble_eq_true rfl⟩ (Nat.le_of_ble_eq_true rfl) rfl dJ0_indexOf_7cf53_14 (fun r6 I5 => ?_)
    refine J_callSi (pc := 17) (as := [.ref 1020, .int x1, .int x2, .int r6]) (st := []) (c_J1_indexOf_4cfef_1020 hG hn x1 x2 r6 I5) (cw_RJ0_637 rfl) wd_620 rfl ⟨Nat.le_of_ble_eq_true rfl, Nat.le_of_ble_eq_true rfl, Nat.le_of_ble_eq_true rfl, Nat.le_of_ble_eq_true rfl⟩ (Nat.le_of_ble_eq_true rfl) rfl dJ0_indexOf_7cf53_17 (fun r8 I7 => ?_)
    refine J_goto (pc := 20) (tgt := 36) dJ0_indexOf_7cf53_20 (by decide) ?_
    exact J_iret (pc := 36) dJ0_indexOf_7cf53_36
abbrev mu_J0_indexOf_0f7a4_1010 (G : Gt) : Mt (Int32 × Mem) := mi G cJ0_indexOf_0f7a4 2 yJ0_indexOf_0f7a4.cls (some .int) 3 70
def f_J0_indexOf_0f7a4_1010 (x1 : Int32) (I : Mem) : Option (Int32 × Mem) :=
  bI (f_J0_indexOf_7cf53_1010 x1 (0 : Int32) I) fun r2 I1 => some (r2, I1)
set_option maxRecDepth 100000 in
theorem c_J0_indexOf_0f7a4_1010 {G : Gt} (hG : Gok G) (hn : Gn G) (x1 : Int32) (I : Mem) : Cti G yJ0_indexOf_0f7a4 cJ0_indexOf_0f7a4 2 (some .int) 3 70 [.ref 1010, .int x1] I (f_J0_indexOf_0f7a4_1010 x1 I) := by
  refine Cti.of (ls := [some (.ref 1010), some (.int x1)]) 0 hG (by decide) rfl (Nat.le_of_ble_eq_true rfl) ?_
  unfold f_J0_indexOf_0f7a4_1010
  refine J_aload_n (pc := 0) (x := 1010) dJ0_indexOf_0f7a4_0 rfl ?_
  refine J_iload_n (pc := 1) (x := x1) dJ0_indexOf_0f7a4_1 rfl ?_
  refine J_iconst (pc := 2) (v := (0 : Int32)) dJ0_indexOf_0f7a4_2 (by decide) ?_
  refine J_callTi (pc := 3) (j := 0) (as := [.int x1, .int (0 : Int32)]) (st := []) (c_J0_indexOf_7cf53_1010 hG hn x1 (0 : Int32) I) (by decide) (cw_RJ0_633 rfl) wd_624 wd_623 rfl ⟨Nat.le_of_ble_eq_true rfl, Nat.le_of_ble_eq_true rfl, Nat.le_of_ble_eq_true rfl, Nat.le_of_ble_eq_true rfl⟩ (Nat.le_of_ble_eq_true rfl) rfl dJ0_indexOf_0f7a4_3 (fun r2 I1 => ?_)
  exact J_iret (pc := 6) dJ0_indexOf_0f7a4_6
abbrev mu_J1_charAt_3b067_1020 (G : Gt) : Mt (Int32 × Mem) := mi G cJ1_charAt_3b067 2 yJ1_charAt_3b067.cls (some .char) 2 43
def f_J1_charAt_3b067_1020 (x1 : Int32) (I : Mem) : Option (Int32 × Mem) :=
  bV (fsci x1 (nI (sln.getD 0 0)) I) fun I1 => ck (inb x1 (sln.getD 0 0)) <| some ((((((sby.getD 0 []).getD (tn x1) 0) &&& (255 : Int32))).toUInt32 % 65536).toInt32, I1)
set_option maxRecDepth 100000 in
theorem c_J1_charAt_3b067_1020 {G : Gt} (hG : Gok G) (hn : Gn G) (x1 : Int32) (I : Mem) : Cti G yJ1_charAt_3b067 cJ1_charAt_3b067 2 (some .char) 2 43 [.ref 1020, .int x1] I (f_J1_charAt_3b067_1020 x1 I) := by
  refine Cti.of (ls := [some (.ref 1020), some (.int x1)]) 0 hG (by decide) rfl (Nat.le_of_ble_eq_true rfl) ?_
  unfold f_J1_charAt_3b067_1020
  refine J_iload_n (pc := 0) (x := x1) dJ1_charAt_3b067_0 rfl ?_
  refine J_aload_n (pc := 1) (x := 1020) dJ1_charAt_3b067_1 rfl ?_
  refine J_tln (pc := 2) (j := 0) (by decide) dJ1_charAt_3b067_2 ?_
  refine J_callSv (pc := 3) (as := [.int x1, .int (nI (sln.getD 0 0))]) (st := []) (c_sci hG hn x1 (nI (sln.getD 0 0)) I) (cw_RJ1_9 rfl) wd_629 rfl ⟨Nat.le_of_ble_eq_true rfl, Nat.le_of_ble_eq_true rfl, Nat.le_of_ble_eq_true rfl, Nat.le_of_ble_eq_true rfl⟩ (Nat.le_of_ble_eq_true rfl) rfl dJ1_charAt_3b067_3 (fun I1 => ?_)
  refine J_aload_n (pc := 6) (x := 1020) dJ1_charAt_3b067_6 rfl ?_
  refine J_iload_n (pc := 7) (x := x1) dJ1_charAt_3b067_7 rfl ?_
  refine J_ck (fun hc2 => ?_)
  refine J_bld (pc := 8) (j := 0) (k := (tn x1)) (by decide) (inb_in hc2) rfl dJ1_charAt_3b067_8 ?_
  refine J_sipush (pc := 9) (v := (255 : Int32)) dJ1_charAt_3b067_9 (by decide) ?_
  refine J_iand (pc := 12) dJ1_charAt_3b067_12 ?_
  refine J_i2c (pc := 13) dJ1_charAt_3b067_13 ?_
  exact J_zret (pc := 14) nar_c dJ1_charAt_3b067_14
abbrev mu_J0_charAt_5068e_1010 (G : Gt) : Mt (Int32 × Mem) := mi G cJ0_charAt_5068e 2 yJ0_charAt_5068e.cls (some .char) 3 64
def f_J0_charAt_5068e_1010 (x1 : Int32) (I : Mem) : Option (Int32 × Mem) :=
  bI (f_J0_isLatin1_aae02_1010 I) fun r2 I1 => (if r2 = 0 then none else bI (f_J1_charAt_3b067_1020 x1 I1) fun r4 I3 => ck (vp_nar .char r4 == r4) <| some (r4, I3))
set_option maxRecDepth 100000 in
theorem c_J0_charAt_5068e_1010 {G : Gt} (hG : Gok G) (hn : Gn G) (x1 : Int32) (I : Mem) : Cti G yJ0_charAt_5068e cJ0_charAt_5068e 2 (some .char) 3 64 [.ref 1010, .int x1] I (f_J0_charAt_5068e_1010 x1 I) := by
  refine Cti.of (ls := [some (.ref 1010), some (.int x1)]) 0 hG (by decide) rfl (Nat.le_of_ble_eq_true rfl) ?_
  unfold f_J0_charAt_5068e_1010
  refine J_aload_n (pc := 0) (x := 1010) dJ0_charAt_5068e_0 rfl ?_
  refine J_callTi (pc := 1) (j := 0) (as := []) (st := []) (c_J0_isLatin1_aae02_1010 hG hn I) (by decide) (cw_RJ0_492 rfl) wd_597 wd_596 rfl ⟨Nat.le_of_ble_eq_true rfl, Nat.le_of_ble_eq_true rfl, Nat.le_of_ble_eq_true rfl, Nat.le_of_ble_eq_true rfl⟩ (Nat.le_of_ble_eq_true rfl) rfl dJ0_charAt_5068e_1 (fun r2 I1 => ?_)
  refine J_if_eq (pc := 4) (tgt := 16) dJ0_charAt_5068e_4 (by decide) ?_ ?_
  · refine J_aload_n (pc := 16) (x := 1010) dJ0_charAt_5068e_16 rfl ?_
    refine J_gva (pc := 17) (j := 0) (by decide) wd_600 dJ0_charAt_5068e_17 ?_
    refine J_iload_n (pc := 20) (x := x1) dJ0_charAt_5068e_20 rfl ?_
    exact J_none
  · refine J_aload_n (pc := 7) (x := 1010) dJ0_charAt_5068e_7 rfl ?_
    refine J_gva (pc := 8) (j := 0) (by decide) wd_600 dJ0_charAt_5068e_8 ?_
    refine J_iload_n (pc := 11) (x := x1) dJ0_charAt_5068e_11 rfl ?_
    refine J_callSi (pc := 12) (as := [.ref 1020, .int x1]) (st := []) (c_J1_charAt_3b067_1020 hG hn x1 I1) (cw_RJ0_495 rfl) wd_630 rfl ⟨Nat.le_of_ble_eq_true rfl, Nat.le_of_ble_eq_true rfl, Nat.le_of_ble_eq_true rfl, Nat.le_of_ble_eq_true rfl⟩ (Nat.le_of_ble_eq_true rfl) rfl dJ0_charAt_5068e_12 (fun r4 I3 => ?_)
    refine J_ck (fun hc5 => ?_)
    exact J_zret (pc := 15) (nar_v hc5) dJ0_charAt_5068e_15
abbrev mu_J0_isLatin1_aae02_1011 (G : Gt) : Mt (Int32 × Mem) := mi G cJ0_isLatin1_aae02 1 yJ0_isLatin1_aae02.cls (some .boolean) 0 0
def f_J0_isLatin1_aae02_1011 (I : Mem) : Option (Int32 × Mem) :=
  (if (1 : Int32) = 0 then some ((0 : Int32), I) else (if (0 : Int32) = 0 then some ((1 : Int32), I) else some ((0 : Int32), I)))
set_option maxRecDepth 100000 in
theorem c_J0_isLatin1_aae02_1011 {G : Gt} (hG : Gok G) (hn : Gn G) (I : Mem) : Cti G yJ0_isLatin1_aae02 cJ0_isLatin1_aae02 1 (some .boolean) 0 0 [.ref 1011] I (f_J0_isLatin1_aae02_1011 I) := by
  refine Cti.of (ls := [some (.ref 1011)]) 0 hG (by decide) rfl (Nat.le_of_ble_eq_true rfl) ?_
  unfold f_J0_isLatin1_aae02_1011
  refine J_gcs (pc := 0) wd_594 dJ0_isLatin1_aae02_0 ?_
  refine J_if_eq (pc := 3) (tgt := 17) dJ0_isLatin1_aae02_3 (by decide) ?_ ?_
  · refine J_iconst (pc := 17) (v := (0 : Int32)) dJ0_isLatin1_aae02_17 (by decide) ?_
    exact J_zret (pc := 18) rfl dJ0_isLatin1_aae02_18
  · refine J_aload_n (pc := 6) (x := 1011) dJ0_isLatin1_aae02_6 rfl ?_
    refine J_gco (pc := 7) (j := 1) (by decide) wd_595 dJ0_isLatin1_aae02_7 ?_
    refine J_if_ne (pc := 10) (tgt := 17) dJ0_isLatin1_aae02_10 (by decide) ?_ ?_
    · refine J_iconst (pc := 13) (v := (1 : Int32)) dJ0_isLatin1_aae02_13 (by decide) ?_
      refine J_goto (pc := 14) (tgt := 18) dJ0_isLatin1_aae02_14 (by decide) ?_
      exact J_zret (pc := 18) rfl dJ0_isLatin1_aae02_18
    · refine J_iconst (pc := 17) (v := (0 : Int32)) dJ0_isLatin1_aae02_17 (by decide) ?_
      exact J_zret (pc := 18) rfl dJ0_isLatin1_aae02_18
abbrev mu_J0_coder_7d493_1011 (G : Gt) : Mt (Int32 × Mem) := mi G cJ0_coder_7d493 1 yJ0_coder_7d493.cls (some .byte) 0 0
def f_J0_coder_7d493_1011 (I : Mem) : Option (Int32 × Mem) :=
  (if (1 : Int32) = 0 then some ((1 : Int32), I) else some ((0 : Int32), I))
set_option maxRecDepth 100000 in
theorem c_J0_coder_7d493_1011 {G : Gt} (hG : Gok G) (hn : Gn G) (I : Mem) : Cti G yJ0_coder_7d493 cJ0_coder_7d493 1 (some .byte) 0 0 [.ref 1011] I (f_J0_coder_7d493_1011 I) := by
  refine Cti.of (ls := [some (.ref 1011)]) 0 hG (by decide) rfl (Nat.le_of_ble_eq_true rfl) ?_
  unfold f_J0_coder_7d493_1011
  refine J_gcs (pc := 0) wd_594 dJ0_coder_7d493_0 ?_
  refine J_if_eq (pc := 3) (tgt := 13) dJ0_coder_7d493_3 (by decide) ?_ ?_
  · refine J_iconst (pc := 13) (v := (1 : Int32)) dJ0_coder_7d493_13 (by decide) ?_
    exact J_zret (pc := 14) rfl dJ0_coder_7d493_14
  · refine J_aload_n (pc := 6) (x := 1011) dJ0_coder_7d493_6 rfl ?_
    refine J_gco (pc := 7) (j := 1) (by decide) wd_595 dJ0_coder_7d493_7 ?_
    refine J_goto (pc := 10) (tgt := 14) dJ0_coder_7d493_10 (by decide) ?_
    exact J_zret (pc := 14) rfl dJ0_coder_7d493_14
abbrev mu_J0_length_8abf5_1011 (G : Gt) : Mt (Int32 × Mem) := mi G cJ0_length_8abf5 1 yJ0_length_8abf5.cls (some .int) 1 20
def f_J0_length_8abf5_1011 (I : Mem) : Option (Int32 × Mem) :=
  bI (f_J0_coder_7d493_1011 I) fun r2 I1 => some (((nI (sln.getD 1 0)) >>> (r2 &&& 31)), I1)
set_option maxRecDepth 100000 in
theorem c_J0_length_8abf5_1011 {G : Gt} (hG : Gok G) (hn : Gn G) (I : Mem) : Cti G yJ0_length_8abf5 cJ0_length_8abf5 1 (some .int) 1 20 [.ref 1011] I (f_J0_length_8abf5_1011 I) := by
  refine Cti.of (ls := [some (.ref 1011)]) 0 hG (by decide) rfl (Nat.le_of_ble_eq_true rfl) ?_
  unfold f_J0_length_8abf5_1011
  refine J_aload_n (pc := 0) (x := 1011) dJ0_length_8abf5_0 rfl ?_
  refine J_gva (pc := 1) (j := 1) (by decide) wd_600 dJ0_length_8abf5_1 ?_
  refine J_tln (pc := 4) (j := 1) (by decide) dJ0_length_8abf5_4 ?_
  refine J_aload_n (pc := 5) (x := 1011) dJ0_length_8abf5_5 rfl ?_
  refine J_callTi (pc := 6) (j := 1) (as := []) (st := [.int (nI (sln.getD 1 0))]) (c_J0_coder_7d493_1011 hG hn I) (by decide) (cw_RJ0_335 rfl) wd_602 wd_601 rfl ⟨Nat.le_of_ble_eq_true rfl, Nat.le_of_ble_eq_true rfl, Nat.le_of_ble_eq_true rfl, Nat.le_of_ble_eq_true rfl⟩ (Nat.le_of_ble_eq_true rfl) rfl dJ0_length_8abf5_6 (fun r2 I1 => ?_)
  refine J_ishr (pc := 9) dJ0_length_8abf5_9 ?_
  exact J_iret (pc := 10) dJ0_length_8abf5_10
abbrev mu_J1_indexOfChar_4cfef_1021 (G : Gt) : Mt (Int32 × Mem) := mi G cJ1_indexOfChar_4cfef 6 yJ1_indexOfChar_4cfef.cls (some .int) 0 0
def b_J1_indexOfChar_4cfef_1021_7 (K22 : Int32 → Mem → Option (Int32 × Mem)) (K31 : Mem → Option (Int32 × Mem)) (R : Int32 → Int32 → Int32 → Mem → Option (Int32 × Mem)) (x3 : Int32) (x4 : Int32) (x5 : Int32) (I : Mem) : Option (Int32 × Mem) :=
  (if x3 ≤ x5 then K31 I else ck (inb x5 (sln.getD 1 0)) <| (if ((sby.getD 1 []).getD (tn x5) 0) = x4 then K22 x5 I else R x3 x4 (x5 + (1 : Int32)) I))
def l_J1_indexOfChar_4cfef_1021_7 (K22 : Int32 → Mem → Option (Int32 × Mem)) (K31 : Mem → Option (Int32 × Mem)) : Nat → Int32 → Int32 → Int32 → Mem → Option (Int32 × Mem) := fx (b_J1_indexOfChar_4cfef_1021_7 K22 K31) (fun _ _ _ _ => none)
def f_J1_indexOfChar_4cfef_1021 (x1 : Int32) (x2 : Int32) (x3 : Int32) (I : Mem) : Option (Int32 × Mem) :=
  l_J1_indexOfChar_4cfef_1021_7 (fun (z2 : Int32) I3 => some (z2, I3)) (fun I4 => some ((-1 : Int32), I4)) fuel x3 ((x1).toInt8.toInt32) x2 I
set_option maxRecDepth 100000 in
theorem tb_J1_indexOfChar_4cfef_1021_7 {G : Gt} (hG : Gok G) (hn : Gn G) {K22 : Int32 → Mem → Option (Int32 × Mem)} (hK22 : ∀ (x5 : Int32) (I : Mem), J G (mu_J1_indexOfChar_4cfef_1021 G) 22 [none, none, none, none, none, some (.int x5)] [] I (K22 x5 I)) {K31 : Mem → Option (Int32 × Mem)} (hK31 : ∀ (I : Mem), J G (mu_J1_indexOfChar_4cfef_1021 G) 31 [none, none, none, none, none, none] [] I (K31 I)) {R : Int32 → Int32 → Int32 → Mem → Option (Int32 × Mem)} (hR : ∀ (x3 : Int32) (x4 : Int32) (x5 : Int32) (I : Mem), J G (mu_J1_indexOfChar_4cfef_1021 G) 7 [some (.ref 1021), none, none, some (.int x3), some (.int x4), some (.int x5)] [] I (R x3 x4 x5 I)) (x3 : Int32) (x4 : Int32) (x5 : Int32) (I : Mem) : J G (mu_J1_indexOfChar_4cfef_1021 G) 7 [some (.ref 1021), none, none, some (.int x3), some (.int x4), some (.int x5)] [] I (b_J1_indexOfChar_4cfef_1021_7 K22 K31 R x3 x4 x5 I) := by
  unfold b_J1_indexOfChar_4cfef_1021_7
  refine J_iload (pc := 7) (x := x5) dJ1_indexOfChar_4cfef_7 rfl ?_
  refine J_iload_n (pc := 9) (x := x3) dJ1_indexOfChar_4cfef_9 rfl ?_
  refine J_icmp_ge (pc := 10) (tgt := 31) dJ1_indexOfChar_4cfef_10 (by decide) ?_ ?_
  · refine J_weak (ls' := [none, none, none, none, none, none]) trivial ?_
    exact hK31 I
  · refine J_aload_n (pc := 13) (x := 1021) dJ1_indexOfChar_4cfef_13 rfl ?_
    refine J_iload (pc := 14) (x := x5) dJ1_indexOfChar_4cfef_14 rfl ?_
    refine J_ck (fun hc1 => ?_)
    refine J_bld (pc := 16) (j := 1) (k := (tn x5)) (by decide) (inb_in hc1) rfl dJ1_indexOfChar_4cfef_16 ?_
    refine J_iload (pc := 17) (x := x4) dJ1_indexOfChar_4cfef_17 rfl ?_
    refine J_icmp_ne (pc := 19) (tgt := 25) dJ1_indexOfChar_4cfef_19 (by decide) ?_ ?_
    · refine J_weak (ls' := [none, none, none, none, none, some (.int x5)]) ⟨rfl, trivial⟩ ?_
      exact hK22 x5 I
    · refine J_iinc (pc := 25) (d := (1 : Int32)) (ls' := [some (.ref 1021), none, none, some (.int x3), some (.int x4), some (.int (x5 + (1 : Int32)))]) dJ1_indexOfChar_4cfef_25 (by decide) rfl (Nat.le_of_ble_eq_true rfl) rfl rfl ?_
      refine J_goto (pc := 28) (tgt := 7) dJ1_indexOfChar_4cfef_28 (by decide) ?_
      exact hR x3 x4 (x5 + (1 : Int32)) I
theorem tl_J1_indexOfChar_4cfef_1021_7 {G : Gt} (hG : Gok G) (hn : Gn G) {K22 : Int32 → Mem → Option (Int32 × Mem)} (hK22 : ∀ (x5 : Int32) (I : Mem), J G (mu_J1_indexOfChar_4cfef_1021 G) 22 [none, none, none, none, none, some (.int x5)] [] I (K22 x5 I)) {K31 : Mem → Option (Int32 × Mem)} (hK31 : ∀ (I : Mem), J G (mu_J1_indexOfChar_4cfef_1021 G) 31 [none, none, none, none, none, none] [] I (K31 I)) (n : Nat) : ∀ (x3 : Int32) (x4 : Int32) (x5 : Int32) (I : Mem), J G (mu_J1_indexOfChar_4cfef_1021 G) 7 [some (.ref 1021), none, none, some (.int x3), some (.int x4), some (.int x5)] [] I (l_J1_indexOfChar_4cfef_1021_7 K22 K31 n x3 x4 x5 I) := by
  induction n with
  | zero => intro x3 x4 x5 I; exact J_none
  | succ n ih => intro x3 x4 x5 I; exact tb_J1_indexOfChar_4cfef_1021_7 hG hn hK22 hK31 ih x3 x4 x5 I
set_option maxRecDepth 100000 in
theorem c_J1_indexOfChar_4cfef_1021 {G : Gt} (hG : Gok G) (hn : Gn G) (x1 : Int32) (x2 : Int32) (x3 : Int32) (I : Mem) : Cti G yJ1_indexOfChar_4cfef cJ1_indexOfChar_4cfef 6 (some .int) 0 0 [.ref 1021, .int x1, .int x2, .int x3] I (f_J1_indexOfChar_4cfef_1021 x1 x2 x3 I) := by
  refine Cti.of (ls := [some (.ref 1021), some (.int x1), some (.int x2), some (.int x3), none, none]) 2 hG (by decide) rfl (Nat.le_of_ble_eq_true rfl) ?_
  unfold f_J1_indexOfChar_4cfef_1021
  refine J_iload_n (pc := 0) (x := x1) dJ1_indexOfChar_4cfef_0 rfl ?_
  refine J_i2b (pc := 1) dJ1_indexOfChar_4cfef_1 ?_
  refine J_istore (pc := 2) (ls' := [some (.ref 1021), some (.int x1), some (.int x2), some (.int x3), some (.int ((x1).toInt8.toInt32)), none]) dJ1_indexOfChar_4cfef_2 (Nat.le_of_ble_eq_true rfl) rfl rfl ?_
  refine J_iload_n (pc := 4) (x := x2) dJ1_indexOfChar_4cfef_4 rfl ?_
  refine J_istore (pc := 5) (ls' := [some (.ref 1021), some (.int x1), some (.int x2), some (.int x3), some (.int ((x1).toInt8.toInt32)), some (.int x2)]) dJ1_indexOfChar_4cfef_5 (Nat.le_of_ble_eq_true rfl) rfl rfl ?_
  refine J_weak (ls' := [some (.ref 1021), none, none, some (.int x3), some (.int ((x1).toInt8.toInt32)), some (.int x2)]) ⟨rfl, rfl, rfl, rfl, trivial⟩ ?_
  refine tl_J1_indexOfChar_4cfef_1021_7 hG hn (fun z2 I3 => ?_) (fun I4 => ?_) fuel x3 ((x1).toInt8.toInt32) x2 I
  · refine J_iload (pc := 22) (x := z2) dJ1_indexOfChar_4cfef_22 rfl ?_
    exact J_iret (pc := 24) dJ1_indexOfChar_4cfef_24
  · refine J_iconst (pc := 31) (v := (-1 : Int32)) dJ1_indexOfChar_4cfef_31 (by decide) ?_
    exact J_iret (pc := 32) dJ1_indexOfChar_4cfef_32
abbrev mu_J1_indexOf_4cfef_1021 (G : Gt) : Mt (Int32 × Mem) := mi G cJ1_indexOf_4cfef 4 yJ1_indexOf_4cfef.cls (some .int) 1 25
def f_J1_indexOf_4cfef_1021 (x1 : Int32) (x2 : Int32) (x3 : Int32) (I : Mem) : Option (Int32 × Mem) :=
  bI (f_J1_canEncode_9a6ad x1 I) fun r2 I1 => (if r2 = 0 then some ((-1 : Int32), I1) else (if (if x2 < (0 : Int32) then (0 : Int32) else x2) < (if (nI (sln.getD 1 0)) < x3 then (nI (sln.getD 1 0)) else x3) then bI (f_J1_indexOfChar_4cfef_1021 x1 (if x2 < (0 : Int32) then (0 : Int32) else x2) (if (nI (sln.getD 1 0)) < x3 then (nI (sln.getD 1 0)) else x3) I1) fun r4 I3 => some (r4, I3) else some ((-1 : Int32), I1)))
set_option maxRecDepth 100000 in
theorem c_J1_indexOf_4cfef_1021 {G : Gt} (hG : Gok G) (hn : Gn G) (x1 : Int32) (x2 : Int32) (x3 : Int32) (I : Mem) : Cti G yJ1_indexOf_4cfef cJ1_indexOf_4cfef 4 (some .int) 1 25 [.ref 1021, .int x1, .int x2, .int x3] I (f_J1_indexOf_4cfef_1021 x1 x2 x3 I) := by
  refine Cti.of (ls := [some (.ref 1021), some (.int x1), some (.int x2), some (.int x3)]) 0 hG (by decide) rfl (Nat.le_of_ble_eq_true rfl) ?_
  unfold f_J1_indexOf_4cfef_1021
  refine J_iload_n (pc := 0) (x := x1) dJ1_indexOf_4cfef_0 rfl ?_
  refine J_callSi (pc := 1) (as := [.int x1]) (st := []) (c_J1_canEncode_9a6ad hG hn x1 I) (cw_RJ1_88 rfl) wd_609 rfl ⟨Nat.le_of_ble_eq_true rfl, Nat.le_of_ble_eq_true rfl, Nat.le_of_ble_eq_true rfl, Nat.le_of_ble_eq_true rfl⟩ (Nat.le_of_ble_eq_true rfl) rfl dJ1_indexOf_4cfef_1 (fun r2 I1 => ?_)
  refine J_if_ne (pc := 4) (tgt := 9) dJ1_indexOf_4cfef_4 (by decide) ?_ ?_
  · refine J_iconst (pc := 7) (v := (-1 : Int32)) dJ1_indexOf_4cfef_7 (by decide) ?_
    exact J_iret (pc := 8) dJ1_indexOf_4cfef_8
  · refine J_iload_n (pc := 9) (x := x2) dJ1_indexOf_4cfef_9 rfl ?_
    refine J_iconst (pc := 10) (v := (0 : Int32)) dJ1_indexOf_4cfef_10 (by decide) ?_
    refine J_max (pc := 11) wd_613 wd_614 wd_94 wd_615 ⟨Nat.le_of_ble_eq_true rfl, Nat.le_of_ble_eq_true rfl⟩ ⟨Nat.le_of_ble_eq_true rfl, Nat.le_of_ble_eq_true rfl⟩ dJ1_indexOf_4cfef_11 ?_
    refine J_istore_n (pc := 14) (ls' := [some (.ref 1021), some (.int x1), some (.int (if x2 < (0 : Int32) then (0 : Int32) else x2)), some (.int x3)]) dJ1_indexOf_4cfef_14 (Nat.le_of_ble_eq_true rfl) rfl rfl ?_
    refine J_iload_n (pc := 15) (x := x3) dJ1_indexOf_4cfef_15 rfl ?_
    refine J_aload_n (pc := 16) (x := 1021) dJ1_indexOf_4cfef_16 rfl ?_
    refine J_tln (pc := 17) (j := 1) (by decide) dJ1_indexOf_4cfef_17 ?_
    refine J_min (pc := 18) wd_616 wd_93 wd_94 wd_95 ⟨Nat.le_of_ble_eq_true rfl, Nat.le_of_ble_eq_true rfl⟩ ⟨Nat.le_of_ble_eq_true rfl, Nat.le_of_ble_eq_true rfl⟩ dJ1_indexOf_4cfef_18 ?_
    refine J_istore_n (pc := 21) (ls' := [some (.ref 1021), some (.int x1), some (.int (if x2 < (0 : Int32) then (0 : Int32) else x2)), some (.int (if (nI (sln.getD 1 0)) < x3 then (nI (sln.getD 1 0)) else x3))]) dJ1_indexOf_4cfef_21 (Nat.le_of_ble_eq_true rfl) rfl rfl ?_
    refine J_iload_n (pc := 22) (x := (if x2 < (0 : Int32) then (0 : Int32) else x2)) dJ1_indexOf_4cfef_22 rfl ?_
    refine J_iload_n (pc := 23) (x := (if (nI (sln.getD 1 0)) < x3 then (nI (sln.getD 1 0)) else x3)) dJ1_indexOf_4cfef_23 rfl ?_
    refine J_icmp_lt (pc := 24) (tgt := 29) dJ1_indexOf_4cfef_24 (by decide) ?_ ?_
    · refine J_aload_n (pc := 29) (x := 1021) dJ1_indexOf_4cfef_29 rfl ?_
      refine J_iload_n (pc := 30) (x := x1) dJ1_indexOf_4cfef_30 rfl ?_
      refine J_iload_n (pc := 31) (x := (if x2 < (0 : Int32) then (0 : Int32) else x2)) dJ1_indexOf_4cfef_31 rfl ?_
      refine J_iload_n (pc := 32) (x := (if (nI (sln.getD 1 0)) < x3 then (nI (sln.getD 1 0)) else x3)) dJ1_indexOf_4cfef_32 rfl ?_
      refine J_callSi (pc := 33) (as := [.ref 1021, .int x1, .int (if x2 < (0 : Int32) then (0 : Int32) else x2), .int (if (nI (sln.getD 1 0)) < x3 then (nI (sln.getD 1 0)) else x3)]) (st := []) (c_J1_indexOfChar_4cfef_1021 hG hn x1 (if x2 < (0 : Int32) then (0 : Int32) else x2) (if (nI (sln.getD 1 0)) < x3 then (nI (sln.getD 1 0)) else x3) I1) (cw_RJ1_95 rfl) wd_617 rfl ⟨Nat.le_of_ble_eq_true rfl, Nat.le_of_ble_eq_true rfl, Nat.le_of_ble_eq_true rfl, Nat.le_of_ble_eq_true rfl⟩ (Nat.le_of_ble_eq_true rfl) rfl dJ1_indexOf_4cfef_33 (fun r4 I3 => ?_)
      exact J_iret (pc := 36) dJ1_indexOf_4cfef_36
    · refine J_iconst (pc := 27) (v := (-1 : Int32)) dJ1_indexOf_4cfef_27 (by decide) ?_
      exact J_iret (pc := 28) dJ1_indexOf_4cfef_28
abbrev mu_J0_indexOf_7cf53_1011 (G : Gt) : Mt (Int32 × Mem) := mi G cJ0_indexOf_7cf53 3 yJ0_indexOf_7cf53.cls (some .int) 2 48
def f_J0_indexOf_7cf53_1011 (x1 : Int32) (x2 : Int32) (I : Mem) : Option (Int32 × Mem) :=
  bI (f_J0_isLatin1_aae02_1011 I) fun r2 I1 => (if r2 = 0 then bI (f_J0_length_8abf5_1011 I1) fun r4 I3 => none else bI (f_J0_length_8abf5_1011 I1) fun r6 I5 => bI (f_J1_indexOf_4cfef_1021 x1 x2 r6 I5) fun r8 I7 => some (r8, I7))
set_option maxRecDepth 100000 in
theorem c_J0_indexOf_7cf53_1011 {G : Gt} (hG : Gok G) (hn : Gn G) (x1 : Int32) (x2 : Int32) (I : Mem) : Cti G yJ0_indexOf_7cf53 cJ0_indexOf_7cf53 3 (some .int) 2 48 [.ref 1011, .int x1, .int x2] I (f_J0_indexOf_7cf53_1011 x1 x2 I) := by
  refine Cti.of (ls := [some (.ref 1011), some (.int x1), some (.int x2)]) 0 hG (by decide) rfl (Nat.le_of_ble_eq_true rfl) ?_
  unfold f_J0_indexOf_7cf53_1011
  refine J_aload_n (pc := 0) (x := 1011) dJ0_indexOf_7cf53_0 rfl ?_
  refine J_callTi (pc := 1) (j := 1) (as := []) (st := []) (c_J0_isLatin1_aae02_1011 hG hn I) (by decide) (cw_RJ0_492 rfl) wd_597 wd_596 rfl ⟨Nat.le_of_ble_eq_true rfl, Nat.le_of_ble_eq_true rfl, Nat.le_of_ble_eq_true rfl, Nat.le_of_ble_eq_true rfl⟩ (Nat.le_of_ble_eq_true rfl) rfl dJ0_indexOf_7cf53_1 (fun r2 I1 => ?_)
  refine J_if_eq (pc := 4) (tgt := 23) dJ0_indexOf_7cf53_4 (by decide) ?_ ?_
  · refine J_aload_n (pc := 23) (x := 1011) dJ0_indexOf_7cf53_23 rfl ?_
    refine J_gva (pc := 24) (j := 1) (by decide) wd_600 dJ0_indexOf_7cf53_24 ?_
    refine J_iload_n (pc := 27) (x := x1) dJ0_indexOf_7cf53_27 rfl ?_
    refine J_iload_n (pc := 28) (x := x2) dJ0_indexOf_7cf53_28 rfl ?_
    refine J_aload_n (pc := 29) (x := 1011) dJ0_indexOf_7cf53_29 rfl ?_
    refine J_callTi (pc := 30) (j := 1) (as := []) (st := [.int x2, .int x1, .ref 1021]) (c_J0_length_8abf5_1011 hG hn I1) (by decide) (cw_RJ0_505 rfl) wd_606 wd_605 rfl ⟨Nat.le_of_ble_eq_true rfl, Nat.le_of_ble_eq_true rfl, Nat.le_of_ble_eq_true rfl, Nat.le_of_ble_eq_true rfl⟩ (Nat.le_of_ble_eq_true rfl) rfl dJ0_indexOf_7cf53_30 (fun r4 I3 => ?_)
    exact J_none
  · refine J_aload_n (pc := 7) (x := 1011) dJ0_indexOf_7cf53_7 rfl ?_
    refine J_gva (pc := 8) (j := 1) (by decide) wd_600 dJ0_indexOf_7cf53_8 ?_
    refine J_iload_n (pc := 11) (x := x1) dJ0_indexOf_7cf53_11 rfl ?_
    refine J_iload_n (pc := 12) (x := x2) dJ0_indexOf_7cf53_12 rfl ?_
    refine J_aload_n (pc := 13) (x := 1011) dJ0_indexOf_7cf53_13 rfl ?_
    refine J_callTi (pc := 14) (j := 1) (as := []) (st := [.int x2, .int x1, .ref 1021]) (c_J0_length_8abf5_1011 hG hn I1) (by decide) (cw_RJ0_505 rfl) wd_606 wd_605 rfl ⟨Nat.le_of_ble_eq_true rfl, Nat.le_of_ble_eq_true rfl, Nat.le_of_ble_eq_true rfl, Nat.le_of_ble_eq_true rfl⟩ (Nat.le_of_ble_eq_true rfl) rfl dJ0_indexOf_7cf53_14 (fun r6 I5 => ?_)
    refine J_callSi (pc := 17) (as := [.ref 1021, .int x1, .int x2, .int r6]) (st := []) (c_J1_indexOf_4cfef_1021 hG hn x1 x2 r6 I5) (cw_RJ0_637 rfl) wd_620 rfl ⟨Nat.le_of_ble_eq_true rfl, Nat.le_of_ble_eq_true rfl, Nat.le_of_ble_eq_true rfl, Nat.le_of_ble_eq_true rfl⟩ (Nat.le_of_ble_eq_true rfl) rfl dJ0_indexOf_7cf53_17 (fun r8 I7 => ?_)
    refine J_goto (pc := 20) (tgt := 36) dJ0_indexOf_7cf53_20 (by decide) ?_
    exact J_iret (pc := 36) dJ0_indexOf_7cf53_36
abbrev mu_J0_indexOf_0f7a4_1011 (G : Gt) : Mt (Int32 × Mem) := mi G cJ0_indexOf_0f7a4 2 yJ0_indexOf_0f7a4.cls (some .int) 3 70
def f_J0_indexOf_0f7a4_1011 (x1 : Int32) (I : Mem) : Option (Int32 × Mem) :=
  bI (f_J0_indexOf_7cf53_1011 x1 (0 : Int32) I) fun r2 I1 => some (r2, I1)
set_option maxRecDepth 100000 in
theorem c_J0_indexOf_0f7a4_1011 {G : Gt} (hG : Gok G) (hn : Gn G) (x1 : Int32) (I : Mem) : Cti G yJ0_indexOf_0f7a4 cJ0_indexOf_0f7a4 2 (some .int) 3 70 [.ref 1011, .int x1] I (f_J0_indexOf_0f7a4_1011 x1 I) := by
  refine Cti.of (ls := [some (.ref 1011), some (.int x1)]) 0 hG (by decide) rfl (Nat.le_of_ble_eq_true rfl) ?_
  unfold f_J0_indexOf_0f7a4_1011
  refine J_aload_n (pc := 0) (x := 1011) dJ0_indexOf_0f7a4_0 rfl ?_
  refine J_iload_n (pc := 1) (x := x1) dJ0_indexOf_0f7a4_1 rfl ?_
  refine J_iconst (pc := 2) (v := (0 : Int32)) dJ0_indexOf_0f7a4_2 (by decide) ?_
  refine J_callTi (pc := 3) (j := 1) (as := [.int x1, .int (0 : Int32)]) (st := []) (c_J0_indexOf_7cf53_1011 hG hn x1 (0 : Int32) I) (by decide) (cw_RJ0_633 rfl) wd_624 wd_623 rfl ⟨Nat.le_of_ble_eq_true rfl, Nat.le_of_ble_eq_true rfl, Nat.le_of_ble_eq_true rfl, Nat.le_of_ble_eq_true rfl⟩ (Nat.le_of_ble_eq_true rfl) rfl dJ0_indexOf_0f7a4_3 (fun r2 I1 => ?_)
  exact J_iret (pc := 6) dJ0_indexOf_0f7a4_6
abbrev mu_J1_charAt_3b067_1021 (G : Gt) : Mt (Int32 × Mem) := mi G cJ1_charAt_3b067 2 yJ1_charAt_3b067.cls (some .char) 2 43
def f_J1_charAt_3b067_1021 (x1 : Int32) (I : Mem) : Option (Int32 × Mem) :=
  bV (fsci x1 (nI (sln.getD 1 0)) I) fun I1 => ck (inb x1 (sln.getD 1 0)) <| some ((((((sby.getD 1 []).getD (tn x1) 0) &&& (255 : Int32))).toUInt32 % 65536).toInt32, I1)
set_option maxRecDepth 100000 in
theorem c_J1_charAt_3b067_1021 {G : Gt} (hG : Gok G) (hn : Gn G) (x1 : Int32) (I : Mem) : Cti G yJ1_charAt_3b067 cJ1_charAt_3b067 2 (some .char) 2 43 [.ref 1021, .int x1] I (f_J1_charAt_3b067_1021 x1 I) := by
  refine Cti.of (ls := [some (.ref 1021), some (.int x1)]) 0 hG (by decide) rfl (Nat.le_of_ble_eq_true rfl) ?_
  unfold f_J1_charAt_3b067_1021
  refine J_iload_n (pc := 0) (x := x1) dJ1_charAt_3b067_0 rfl ?_
  refine J_aload_n (pc := 1) (x := 1021) dJ1_charAt_3b067_1 rfl ?_
  refine J_tln (pc := 2) (j := 1) (by decide) dJ1_charAt_3b067_2 ?_
  refine J_callSv (pc := 3) (as := [.int x1, .int (nI (sln.getD 1 0))]) (st := []) (c_sci hG hn x1 (nI (sln.getD 1 0)) I) (cw_RJ1_9 rfl) wd_629 rfl ⟨Nat.le_of_ble_eq_true rfl, Nat.le_of_ble_eq_true rfl, Nat.le_of_ble_eq_true rfl, Nat.le_of_ble_eq_true rfl⟩ (Nat.le_of_ble_eq_true rfl) rfl dJ1_charAt_3b067_3 (fun I1 => ?_)
  refine J_aload_n (pc := 6) (x := 1021) dJ1_charAt_3b067_6 rfl ?_
  refine J_iload_n (pc := 7) (x := x1) dJ1_charAt_3b067_7 rfl ?_
  refine J_ck (fun hc2 => ?_)
  refine J_bld (pc := 8) (j := 1) (k := (tn x1)) (by decide) (inb_in hc2) rfl dJ1_charAt_3b067_8 ?_
  refine J_sipush (pc := 9) (v := (255 : Int32)) dJ1_charAt_3b067_9 (by decide) ?_
  refine J_iand (pc := 12) dJ1_charAt_3b067_12 ?_
  refine J_i2c (pc := 13) dJ1_charAt_3b067_13 ?_
  exact J_zret (pc := 14) nar_c dJ1_charAt_3b067_14
abbrev mu_J0_charAt_5068e_1011 (G : Gt) : Mt (Int32 × Mem) := mi G cJ0_charAt_5068e 2 yJ0_charAt_5068e.cls (some .char) 3 64
def f_J0_charAt_5068e_1011 (x1 : Int32) (I : Mem) : Option (Int32 × Mem) :=
  bI (f_J0_isLatin1_aae02_1011 I) fun r2 I1 => (if r2 = 0 then none else bI (f_J1_charAt_3b067_1021 x1 I1) fun r4 I3 => ck (vp_nar .char r4 == r4) <| some (r4, I3))
set_option maxRecDepth 100000 in
theorem c_J0_charAt_5068e_1011 {G : Gt} (hG : Gok G) (hn : Gn G) (x1 : Int32) (I : Mem) : Cti G yJ0_charAt_5068e cJ0_charAt_5068e 2 (some .char) 3 64 [.ref 1011, .int x1] I (f_J0_charAt_5068e_1011 x1 I) := by
  refine Cti.of (ls := [some (.ref 1011), some (.int x1)]) 0 hG (by decide) rfl (Nat.le_of_ble_eq_true rfl) ?_
  unfold f_J0_charAt_5068e_1011
  refine J_aload_n (pc := 0) (x := 1011) dJ0_charAt_5068e_0 rfl ?_
  refine J_callTi (pc := 1) (j := 1) (as := []) (st := []) (c_J0_isLatin1_aae02_1011 hG hn I) (by decide) (cw_RJ0_492 rfl) wd_597 wd_596 rfl ⟨Nat.le_of_ble_eq_true rfl, Nat.le_of_ble_eq_true rfl, Nat.le_of_ble_eq_true rfl, Nat.le_of_ble_eq_true rfl⟩ (Nat.le_of_ble_eq_true rfl) rfl dJ0_charAt_5068e_1 (fun r2 I1 => ?_)
  refine J_if_eq (pc := 4) (tgt := 16) dJ0_charAt_5068e_4 (by decide) ?_ ?_
  · refine J_aload_n (pc := 16) (x := 1011) dJ0_charAt_5068e_16 rfl ?_
    refine J_gva (pc := 17) (j := 1) (by decide) wd_600 dJ0_charAt_5068e_17 ?_
    refine J_iload_n (pc := 20) (x := x1) dJ0_charAt_5068e_20 rfl ?_
    exact J_none
  · refine J_aload_n (pc := 7) (x := 1011) dJ0_charAt_5068e_7 rfl ?_
    refine J_gva (pc := 8) (j := 1) (by decide) wd_600 dJ0_charAt_5068e_8 ?_
    refine J_iload_n (pc := 11) (x := x1) dJ0_charAt_5068e_11 rfl ?_
    refine J_callSi (pc := 12) (as := [.ref 1021, .int x1]) (st := []) (c_J1_charAt_3b067_1021 hG hn x1 I1) (cw_RJ0_495 rfl) wd_630 rfl ⟨Nat.le_of_ble_eq_true rfl, Nat.le_of_ble_eq_true rfl, Nat.le_of_ble_eq_true rfl, Nat.le_of_ble_eq_true rfl⟩ (Nat.le_of_ble_eq_true rfl) rfl dJ0_charAt_5068e_12 (fun r4 I3 => ?_)
    refine J_ck (fun hc5 => ?_)
    exact J_zret (pc := 15) (nar_v hc5) dJ0_charAt_5068e_15
abbrev mu_J0_isLatin1_aae02_1012 (G : Gt) : Mt (Int32 × Mem) := mi G cJ0_isLatin1_aae02 1 yJ0_isLatin1_aae02.cls (some .boolean) 0 0
def f_J0_isLatin1_aae02_1012 (I : Mem) : Option (Int32 × Mem) :=
  (if (1 : Int32) = 0 then some ((0 : Int32), I) else (if (0 : Int32) = 0 then some ((1 : Int32), I) else some ((0 : Int32), I)))
set_option maxRecDepth 100000 in
theorem c_J0_isLatin1_aae02_1012 {G : Gt} (hG : Gok G) (hn : Gn G) (I : Mem) : Cti G yJ0_isLatin1_aae02 cJ0_isLatin1_aae02 1 (some .boolean) 0 0 [.ref 1012] I (f_J0_isLatin1_aae02_1012 I) := by
  refine Cti.of (ls := [some (.ref 1012)]) 0 hG (by decide) rfl (Nat.le_of_ble_eq_true rfl) ?_
  unfold f_J0_isLatin1_aae02_1012
  refine J_gcs (pc := 0) wd_594 dJ0_isLatin1_aae02_0 ?_
  refine J_if_eq (pc := 3) (tgt := 17) dJ0_isLatin1_aae02_3 (by decide) ?_ ?_
  · refine J_iconst (pc := 17) (v := (0 : Int32)) dJ0_isLatin1_aae02_17 (by decide) ?_
    exact J_zret (pc := 18) rfl dJ0_isLatin1_aae02_18
  · refine J_aload_n (pc := 6) (x := 1012) dJ0_isLatin1_aae02_6 rfl ?_
    refine J_gco (pc := 7) (j := 2) (by decide) wd_595 dJ0_isLatin1_aae02_7 ?_
    refine J_if_ne (pc := 10) (tgt := 17) dJ0_isLatin1_aae02_10 (by decide) ?_ ?_
    · refine J_iconst (pc := 13) (v := (1 : Int32)) dJ0_isLatin1_aae02_13 (by decide) ?_
      refine J_goto (pc := 14) (tgt := 18) dJ0_isLatin1_aae02_14 (by decide) ?_
      exact J_zret (pc := 18) rfl dJ0_isLatin1_aae02_18
    · refine J_iconst (pc := 17) (v := (0 : Int32)) dJ0_isLatin1_aae02_17 (by decide) ?_
      exact J_zret (pc := 18) rfl dJ0_isLatin1_aae02_18
abbrev mu_J0_coder_7d493_1012 (G : Gt) : Mt (Int32 × Mem) := mi G cJ0_coder_7d493 1 yJ0_coder_7d493.cls (some .byte) 0 0
def f_J0_coder_7d493_1012 (I : Mem) : Option (Int32 × Mem) :=
  (if (1 : Int32) = 0 then some ((1 : Int32), I) else some ((0 : Int32), I))
set_option maxRecDepth 100000 in
theorem c_J0_coder_7d493_1012 {G : Gt} (hG : Gok G) (hn : Gn G) (I : Mem) : Cti G yJ0_coder_7d493 cJ0_coder_7d493 1 (some .byte) 0 0 [.ref 1012] I (f_J0_coder_7d493_1012 I) := by
  refine Cti.of (ls := [some (.ref 1012)]) 0 hG (by decide) rfl (Nat.le_of_ble_eq_true rfl) ?_
  unfold f_J0_coder_7d493_1012
  refine J_gcs (pc := 0) wd_594 dJ0_coder_7d493_0 ?_
  refine J_if_eq (pc := 3) (tgt := 13) dJ0_coder_7d493_3 (by decide) ?_ ?_
  · refine J_iconst (pc := 13) (v := (1 : Int32)) dJ0_coder_7d493_13 (by decide) ?_
    exact J_zret (pc := 14) rfl dJ0_coder_7d493_14
  · refine J_aload_n (pc := 6) (x := 1012) dJ0_coder_7d493_6 rfl ?_
    refine J_gco (pc := 7) (j := 2) (by decide) wd_595 dJ0_coder_7d493_7 ?_
    refine J_goto (pc := 10) (tgt := 14) dJ0_coder_7d493_10 (by decide) ?_
    exact J_zret (pc := 14) rfl dJ0_coder_7d493_14
abbrev mu_J0_length_8abf5_1012 (G : Gt) : Mt (Int32 × Mem) := mi G cJ0_length_8abf5 1 yJ0_length_8abf5.cls (some .int) 1 20
def f_J0_length_8abf5_1012 (I : Mem) : Option (Int32 × Mem) :=
  bI (f_J0_coder_7d493_1012 I) fun r2 I1 => some (((nI (sln.getD 2 0)) >>> (r2 &&& 31)), I1)
set_option maxRecDepth 100000 in
theorem c_J0_length_8abf5_1012 {G : Gt} (hG : Gok G) (hn : Gn G) (I : Mem) : Cti G yJ0_length_8abf5 cJ0_length_8abf5 1 (some .int) 1 20 [.ref 1012] I (f_J0_length_8abf5_1012 I) := by
  refine Cti.of (ls := [some (.ref 1012)]) 0 hG (by decide) rfl (Nat.le_of_ble_eq_true rfl) ?_
  unfold f_J0_length_8abf5_1012
  refine J_aload_n (pc := 0) (x := 1012) dJ0_length_8abf5_0 rfl ?_
  refine J_gva (pc := 1) (j := 2) (by decide) wd_600 dJ0_length_8abf5_1 ?_
  refine J_tln (pc := 4) (j := 2) (by decide) dJ0_length_8abf5_4 ?_
  refine J_aload_n (pc := 5) (x := 1012) dJ0_length_8abf5_5 rfl ?_
  refine J_callTi (pc := 6) (j := 2) (as := []) (st := [.int (nI (sln.getD 2 0))]) (c_J0_coder_7d493_1012 hG hn I) (by decide) (cw_RJ0_335 rfl) wd_602 wd_601 rfl ⟨Nat.le_of_ble_eq_true rfl, Nat.le_of_ble_eq_true rfl, Nat.le_of_ble_eq_true rfl, Nat.le_of_ble_eq_true rfl⟩ (Nat.le_of_ble_eq_true rfl) rfl dJ0_length_8abf5_6 (fun r2 I1 => ?_)
  refine J_ishr (pc := 9) dJ0_length_8abf5_9 ?_
  exact J_iret (pc := 10) dJ0_length_8abf5_10
abbrev mu_J1_indexOfChar_4cfef_1022 (G : Gt) : Mt (Int32 × Mem) := mi G cJ1_indexOfChar_4cfef 6 yJ1_indexOfChar_4cfef.cls (some .int) 0 0
def b_J1_indexOfChar_4cfef_1022_7 (K22 : Int32 → Mem → Option (Int32 × Mem)) (K31 : Mem → Option (Int32 × Mem)) (R : Int32 → Int32 → Int32 → Mem → Option (Int32 × Mem)) (x3 : Int32) (x4 : Int32) (x5 : Int32) (I : Mem) : Option (Int32 × Mem) :=
  (if x3 ≤ x5 then K31 I else ck (inb x5 (sln.getD 2 0)) <| (if ((sby.getD 2 []).getD (tn x5) 0) = x4 then K22 x5 I else R x3 x4 (x5 + (1 : Int32)) I))
def l_J1_indexOfChar_4cfef_1022_7 (K22 : Int32 → Mem → Option (Int32 × Mem)) (K31 : Mem → Option (Int32 × Mem)) : Nat → Int32 → Int32 → Int32 → Mem → Option (Int32 × Mem) := fx (b_J1_indexOfChar_4cfef_1022_7 K22 K31) (fun _ _ _ _ => none)
def f_J1_indexOfChar_4cfef_1022 (x1 : Int32) (x2 : Int32) (x3 : Int32) (I : Mem) : Option (Int32 × Mem) :=
  l_J1_indexOfChar_4cfef_1022_7 (fun (z2 : Int32) I3 => some (z2, I3)) (fun I4 => some ((-1 : Int32), I4)) fuel x3 ((x1).toInt8.toInt32) x2 I
set_option maxRecDepth 100000 in
theorem tb_J1_indexOfChar_4cfef_1022_7 {G : Gt} (hG : Gok G) (hn : Gn G) {K22 : Int32 → Mem → Option (Int32 × Mem)} (hK22 : ∀ (x5 : Int32) (I : Mem), J G (mu_J1_indexOfChar_4cfef_1022 G) 22 [none, none, none, none, none, some (.int x5)] [] I (K22 x5 I)) {K31 : Mem → Option (Int32 × Mem)} (hK31 : ∀ (I : Mem), J G (mu_J1_indexOfChar_4cfef_1022 G) 31 [none, none, none, none, none, none] [] I (K31 I)) {R : Int32 → Int32 → Int32 → Mem → Option (Int32 × Mem)} (hR : ∀ (x3 : Int32) (x4 : Int32) (x5 : Int32) (I : Mem), J G (mu_J1_indexOfChar_4cfef_1022 G) 7 [some (.ref 1022), none, none, some (.int x3), some (.int x4), some (.int x5)] [] I (R x3 x4 x5 I)) (x3 : Int32) (x4 : Int32) (x5 : Int32) (I : Mem) : J G (mu_J1_indexOfChar_4cfef_1022 G) 7 [some (.ref 1022), none, none, some (.int x3), some (.int x4), some (.int x5)] [] I (b_J1_indexOfChar_4cfef_1022_7 K22 K31 R x3 x4 x5 I) := by
  unfold b_J1_indexOfChar_4cfef_1022_7
  refine J_iload (pc := 7) (x := x5) dJ1_indexOfChar_4cfef_7 rfl ?_
  refine J_iload_n (pc := 9) (x := x3) dJ1_indexOfChar_4cfef_9 rfl ?_
  refine J_icmp_ge (pc := 10) (tgt := 31) dJ1_indexOfChar_4cfef_10 (by decide) ?_ ?_
  · refine J_weak (ls' := [none, none, none, none, none, none]) trivial ?_
    exact hK31 I
  · refine J_aload_n (pc := 13) (x := 1022) dJ1_indexOfChar_4cfef_13 rfl ?_
    refine J_iload (pc := 14) (x := x5) dJ1_indexOfChar_4cfef_14 rfl ?_
    refine J_ck (fun hc1 => ?_)
    refine J_bld (pc := 16) (j := 2) (k := (tn x5)) (by decide) (inb_in hc1) rfl dJ1_indexOfChar_4cfef_16 ?_
    refine J_iload (pc := 17) (x := x4) dJ1_indexOfChar_4cfef_17 rfl ?_
    refine J_icmp_ne (pc := 19) (tgt := 25) dJ1_indexOfChar_4cfef_19 (by decide) ?_ ?_
    · refine J_weak (ls' := [none, none, none, none, none, some (.int x5)]) ⟨rfl, trivial⟩ ?_
      exact hK22 x5 I
    · refine J_iinc (pc := 25) (d := (1 : Int32)) (ls' := [some (.ref 1022), none, none, some (.int x3), some (.int x4), some (.int (x5 + (1 : Int32)))]) dJ1_indexOfChar_4cfef_25 (by decide) rfl (Nat.le_of_ble_eq_true rfl) rfl rfl ?_
      refine J_goto (pc := 28) (tgt := 7) dJ1_indexOfChar_4cfef_28 (by decide) ?_
      exact hR x3 x4 (x5 + (1 : Int32)) I
theorem tl_J1_indexOfChar_4cfef_1022_7 {G : Gt} (hG : Gok G) (hn : Gn G) {K22 : Int32 → Mem → Option (Int32 × Mem)} (hK22 : ∀ (x5 : Int32) (I : Mem), J G (mu_J1_indexOfChar_4cfef_1022 G) 22 [none, none, none, none, none, some (.int x5)] [] I (K22 x5 I)) {K31 : Mem → Option (Int32 × Mem)} (hK31 : ∀ (I : Mem), J G (mu_J1_indexOfChar_4cfef_1022 G) 31 [none, none, none, none, none, none] [] I (K31 I)) (n : Nat) : ∀ (x3 : Int32) (x4 : Int32) (x5 : Int32) (I : Mem), J G (mu_J1_indexOfChar_4cfef_1022 G) 7 [some (.ref 1022), none, none, some (.int x3), some (.int x4), some (.int x5)] [] I (l_J1_indexOfChar_4cfef_1022_7 K22 K31 n x3 x4 x5 I) := by
  induction n with
  | zero => intro x3 x4 x5 I; exact J_none
  | succ n ih => intro x3 x4 x5 I; exact tb_J1_indexOfChar_4cfef_1022_7 hG hn hK22 hK31 ih x3 x4 x5 I
set_option maxRecDepth 100000 in
theorem c_J1_indexOfChar_4cfef_1022 {G : Gt} (hG : Gok G) (hn : Gn G) (x1 : Int32) (x2 : Int32) (x3 : Int32) (I : Mem) : Cti G yJ1_indexOfChar_4cfef cJ1_indexOfChar_4cfef 6 (some .int) 0 0 [.ref 1022, .int x1, .int x2, .int x3] I (f_J1_indexOfChar_4cfef_1022 x1 x2 x3 I) := by
  refine Cti.of (ls := [some (.ref 1022), some (.int x1), some (.int x2), some (.int x3), none, none]) 2 hG (by decide) rfl (Nat.le_of_ble_eq_true rfl) ?_
  unfold f_J1_indexOfChar_4cfef_1022
  refine J_iload_n (pc := 0) (x := x1) dJ1_indexOfChar_4cfef_0 rfl ?_
  refine J_i2b (pc := 1) dJ1_indexOfChar_4cfef_1 ?_
  refine J_istore (pc := 2) (ls' := [some (.ref 1022), some (.int x1), some (.int x2), some (.int x3), some (.int ((x1).toInt8.toInt32)), none]) dJ1_indexOfChar_4cfef_2 (Nat.le_of_ble_eq_true rfl) rfl rfl ?_
  refine J_iload_n (pc := 4) (x := x2) dJ1_indexOfChar_4cfef_4 rfl ?_
  refine J_istore (pc := 5) (ls' := [some (.ref 1022), some (.int x1), some (.int x2), some (.int x3), some (.int ((x1).toInt8.toInt32)), some (.int x2)]) dJ1_indexOfChar_4cfef_5 (Nat.le_of_ble_eq_true rfl) rfl rfl ?_
  refine J_weak (ls' := [some (.ref 1022), none, none, some (.int x3), some (.int ((x1).toInt8.toInt32)), some (.int x2)]) ⟨rfl, rfl, rfl, rfl, trivial⟩ ?_
  refine tl_J1_indexOfChar_4cfef_1022_7 hG hn (fun z2 I3 => ?_) (fun I4 => ?_) fuel x3 ((x1).toInt8.toInt32) x2 I
  · refine J_iload (pc := 22) (x := z2) dJ1_indexOfChar_4cfef_22 rfl ?_
    exact J_iret (pc := 24) dJ1_indexOfChar_4cfef_24
  · refine J_iconst (pc := 31) (v := (-1 : Int32)) dJ1_indexOfChar_4cfef_31 (by decide) ?_
    exact J_iret (pc := 32) dJ1_indexOfChar_4cfef_32
abbrev mu_J1_indexOf_4cfef_1022 (G : Gt) : Mt (Int32 × Mem) := mi G cJ1_indexOf_4cfef 4 yJ1_indexOf_4cfef.cls (some .int) 1 25
def f_J1_indexOf_4cfef_1022 (x1 : Int32) (x2 : Int32) (x3 : Int32) (I : Mem) : Option (Int32 × Mem) :=
  bI (f_J1_canEncode_9a6ad x1 I) fun r2 I1 => (if r2 = 0 then some ((-1 : Int32), I1) else (if (if x2 < (0 : Int32) then (0 : Int32) else x2) < (if (nI (sln.getD 2 0)) < x3 then (nI (sln.getD 2 0)) else x3) then bI (f_J1_indexOfChar_4cfef_1022 x1 (if x2 < (0 : Int32) then (0 : Int32) else x2) (if (nI (sln.getD 2 0)) < x3 then (nI (sln.getD 2 0)) else x3) I1) fun r4 I3 => some (r4, I3) else some ((-1 : Int32), I1)))
set_option maxRecDepth 100000 in
theorem c_J1_indexOf_4cfef_1022 {G : Gt} (hG : Gok G) (hn : Gn G) (x1 : Int32) (x2 : Int32) (x3 : Int32) (I : Mem) : Cti G yJ1_indexOf_4cfef cJ1_indexOf_4cfef 4 (some .int) 1 25 [.ref 1022, .int x1, .int x2, .int x3] I (f_J1_indexOf_4cfef_1022 x1 x2 x3 I) := by
  refine Cti.of (ls := [some (.ref 1022), some (.int x1), some (.int x2), some (.int x3)]) 0 hG (by decide) rfl (Nat.le_of_ble_eq_true rfl) ?_
  unfold f_J1_indexOf_4cfef_1022
  refine J_iload_n (pc := 0) (x := x1) dJ1_indexOf_4cfef_0 rfl ?_
  refine J_callSi (pc := 1) (as := [.int x1]) (st := []) (c_J1_canEncode_9a6ad hG hn x1 I) (cw_RJ1_88 rfl) wd_609 rfl ⟨Nat.le_of_ble_eq_true rfl, Nat.le_of_ble_eq_true rfl, Nat.le_of_ble_eq_true rfl, Nat.le_of_ble_eq_true rfl⟩ (Nat.le_of_ble_eq_true rfl) rfl dJ1_indexOf_4cfef_1 (fun r2 I1 => ?_)
  refine J_if_ne (pc := 4) (tgt := 9) dJ1_indexOf_4cfef_4 (by decide) ?_ ?_
  · refine J_iconst (pc := 7) (v := (-1 : Int32)) dJ1_indexOf_4cfef_7 (by decide) ?_
    exact J_iret (pc := 8) dJ1_indexOf_4cfef_8
  · refine J_iload_n (pc := 9) (x := x2) dJ1_indexOf_4cfef_9 rfl ?_
    refine J_iconst (pc := 10) (v := (0 : Int32)) dJ1_indexOf_4cfef_10 (by decide) ?_
    refine J_max (pc := 11) wd_613 wd_614 wd_94 wd_615 ⟨Nat.le_of_ble_eq_true rfl, Nat.le_of_ble_eq_true rfl⟩ ⟨Nat.le_of_ble_eq_true rfl, Nat.le_of_ble_eq_true rfl⟩ dJ1_indexOf_4cfef_11 ?_
    refine J_istore_n (pc := 14) (ls' := [some (.ref 1022), some (.int x1), some (.int (if x2 < (0 : Int32) then (0 : Int32) else x2)), some (.int x3)]) dJ1_indexOf_4cfef_14 (Nat.le_of_ble_eq_true rfl) rfl rfl ?_
    refine J_iload_n (pc := 15) (x := x3) dJ1_indexOf_4cfef_15 rfl ?_
    refine J_aload_n (pc := 16) (x := 1022) dJ1_indexOf_4cfef_16 rfl ?_
    refine J_tln (pc := 17) (j := 2) (by decide) dJ1_indexOf_4cfef_17 ?_
    refine J_min (pc := 18) wd_616 wd_93 wd_94 wd_95 ⟨Nat.le_of_ble_eq_true rfl, Nat.le_of_ble_eq_true rfl⟩ ⟨Nat.le_of_ble_eq_true rfl, Nat.le_of_ble_eq_true rfl⟩ dJ1_indexOf_4cfef_18 ?_
    refine J_istore_n (pc := 21) (ls' := [some (.ref 1022), some (.int x1), some (.int (if x2 < (0 : Int32) then (0 : Int32) else x2)), some (.int (if (nI (sln.getD 2 0)) < x3 then (nI (sln.getD 2 0)) else x3))]) dJ1_indexOf_4cfef_21 (Nat.le_of_ble_eq_true rfl) rfl rfl ?_
    refine J_iload_n (pc := 22) (x := (if x2 < (0 : Int32) then (0 : Int32) else x2)) dJ1_indexOf_4cfef_22 rfl ?_
    refine J_iload_n (pc := 23) (x := (if (nI (sln.getD 2 0)) < x3 then (nI (sln.getD 2 0)) else x3)) dJ1_indexOf_4cfef_23 rfl ?_
    refine J_icmp_lt (pc := 24) (tgt := 29) dJ1_indexOf_4cfef_24 (by decide) ?_ ?_
    · refine J_aload_n (pc := 29) (x := 1022) dJ1_indexOf_4cfef_29 rfl ?_
      refine J_iload_n (pc := 30) (x := x1) dJ1_indexOf_4cfef_30 rfl ?_
      refine J_iload_n (pc := 31) (x := (if x2 < (0 : Int32) then (0 : Int32) else x2)) dJ1_indexOf_4cfef_31 rfl ?_
      refine J_iload_n (pc := 32) (x := (if (nI (sln.getD 2 0)) < x3 then (nI (sln.getD 2 0)) else x3)) dJ1_indexOf_4cfef_32 rfl ?_
      refine J_callSi (pc := 33) (as := [.ref 1022, .int x1, .int (if x2 < (0 : Int32) then (0 : Int32) else x2), .int (if (nI (sln.getD 2 0)) < x3 then (nI (sln.getD 2 0)) else x3)]) (st := []) (c_J1_indexOfChar_4cfef_1022 hG hn x1 (if x2 < (0 : Int32) then (0 : Int32) else x2) (if (nI (sln.getD 2 0)) < x3 then (nI (sln.getD 2 0)) else x3) I1) (cw_RJ1_95 rfl) wd_617 rfl ⟨Nat.le_of_ble_eq_true rfl, Nat.le_of_ble_eq_true rfl, Nat.le_of_ble_eq_true rfl, Nat.le_of_ble_eq_true rfl⟩ (Nat.le_of_ble_eq_true rfl) rfl dJ1_indexOf_4cfef_33 (fun r4 I3 => ?_)
      exact J_iret (pc := 36) dJ1_indexOf_4cfef_36
    · refine J_iconst (pc := 27) (v := (-1 : Int32)) dJ1_indexOf_4cfef_27 (by decide) ?_
      exact J_iret (pc := 28) dJ1_indexOf_4cfef_28
abbrev mu_J0_indexOf_7cf53_1012 (G : Gt) : Mt (Int32 × Mem) := mi G cJ0_indexOf_7cf53 3 yJ0_indexOf_7cf53.cls (some .int) 2 48
def f_J0_indexOf_7cf53_1012 (x1 : Int32) (x2 : Int32) (I : Mem) : Option (Int32 × Mem) :=
  bI (f_J0_isLatin1_aae02_1012 I) fun r2 I1 => (if r2 = 0 then bI (f_J0_length_8abf5_1012 I1) fun r4 I3 => none else bI (f_J0_length_8abf5_1012 I1) fun r6 I5 => bI (f_J1_indexOf_4cfef_1022 x1 x2 r6 I5) fun r8 I7 => some (r8, I7))
set_option maxRecDepth 100000 in
theorem c_J0_indexOf_7cf53_1012 {G : Gt} (hG : Gok G) (hn : Gn G) (x1 : Int32) (x2 : Int32) (I : Mem) : Cti G yJ0_indexOf_7cf53 cJ0_indexOf_7cf53 3 (some .int) 2 48 [.ref 1012, .int x1, .int x2] I (f_J0_indexOf_7cf53_1012 x1 x2 I) := by
  refine Cti.of (ls := [some (.ref 1012), some (.int x1), some (.int x2)]) 0 hG (by decide) rfl (Nat.le_of_ble_eq_true rfl) ?_
  unfold f_J0_indexOf_7cf53_1012
  refine J_aload_n (pc := 0) (x := 1012) dJ0_indexOf_7cf53_0 rfl ?_
  refine J_callTi (pc := 1) (j := 2) (as := []) (st := []) (c_J0_isLatin1_aae02_1012 hG hn I) (by decide) (cw_RJ0_492 rfl) wd_597 wd_596 rfl ⟨Nat.le_of_ble_eq_true rfl, Nat.le_of_ble_eq_true rfl, Nat.le_of_ble_eq_true rfl, Nat.le_of_ble_eq_true rfl⟩ (Nat.le_of_ble_eq_true rfl) rfl dJ0_indexOf_7cf53_1 (fun r2 I1 => ?_)
  refine J_if_eq (pc := 4) (tgt := 23) dJ0_indexOf_7cf53_4 (by decide) ?_ ?_
  · refine J_aload_n (pc := 23) (x := 1012) dJ0_indexOf_7cf53_23 rfl ?_
    refine J_gva (pc := 24) (j := 2) (by decide) wd_600 dJ0_indexOf_7cf53_24 ?_
    refine J_iload_n (pc := 27) (x := x1) dJ0_indexOf_7cf53_27 rfl ?_
    refine J_iload_n (pc := 28) (x := x2) dJ0_indexOf_7cf53_28 rfl ?_
    refine J_aload_n (pc := 29) (x := 1012) dJ0_indexOf_7cf53_29 rfl ?_
    refine J_callTi (pc := 30) (j := 2) (as := []) (st := [.int x2, .int x1, .ref 1022]) (c_J0_length_8abf5_1012 hG hn I1) (by decide) (cw_RJ0_505 rfl) wd_606 wd_605 rfl ⟨Nat.le_of_ble_eq_true rfl, Nat.le_of_ble_eq_true rfl, Nat.le_of_ble_eq_true rfl, Nat.le_of_ble_eq_true rfl⟩ (Nat.le_of_ble_eq_true rfl) rfl dJ0_indexOf_7cf53_30 (fun r4 I3 => ?_)
    exact J_none
  · refine J_aload_n (pc := 7) (x := 1012) dJ0_indexOf_7cf53_7 rfl ?_
    refine J_gva (pc := 8) (j := 2) (by decide) wd_600 dJ0_indexOf_7cf53_8 ?_
    refine J_iload_n (pc := 11) (x := x1) dJ0_indexOf_7cf53_11 rfl ?_
    refine J_iload_n (pc := 12) (x := x2) dJ0_indexOf_7cf53_12 rfl ?_
    refine J_aload_n (pc := 13) (x := 1012) dJ0_indexOf_7cf53_13 rfl ?_
    refine J_callTi (pc := 14) (j := 2) (as := []) (st := [.int x2, .int x1, .ref 1022]) (c_J0_length_8abf5_1012 hG hn I1) (by decide) (cw_RJ0_505 rfl) wd_606 wd_605 rfl ⟨Nat.le_of_ble_eq_true rfl, Nat.le_of_ble_eq_true rfl, Nat.le_of_ble_eq_true rfl, Nat.le_of_ble_eq_true rfl⟩ (Nat.le_of_ble_eq_true rfl) rfl dJ0_indexOf_7cf53_14 (fun r6 I5 => ?_)
    refine J_callSi (pc := 17) (as := [.ref 1022, .int x1, .int x2, .int r6]) (st := []) (c_J1_indexOf_4cfef_1022 hG hn x1 x2 r6 I5) (cw_RJ0_637 rfl) wd_620 rfl ⟨Nat.le_of_ble_eq_true rfl, Nat.le_of_ble_eq_true rfl, Nat.le_of_ble_eq_true rfl, Nat.le_of_ble_eq_true rfl⟩ (Nat.le_of_ble_eq_true rfl) rfl dJ0_indexOf_7cf53_17 (fun r8 I7 => ?_)
    refine J_goto (pc := 20) (tgt := 36) dJ0_indexOf_7cf53_20 (by decide) ?_
    exact J_iret (pc := 36) dJ0_indexOf_7cf53_36
abbrev mu_J0_indexOf_0f7a4_1012 (G : Gt) : Mt (Int32 × Mem) := mi G cJ0_indexOf_0f7a4 2 yJ0_indexOf_0f7a4.cls (some .int) 3 70
def f_J0_indexOf_0f7a4_1012 (x1 : Int32) (I : Mem) : Option (Int32 × Mem) :=
  bI (f_J0_indexOf_7cf53_1012 x1 (0 : Int32) I) fun r2 I1 => some (r2, I1)
set_option maxRecDepth 100000 in
theorem c_J0_indexOf_0f7a4_1012 {G : Gt} (hG : Gok G) (hn : Gn G) (x1 : Int32) (I : Mem) : Cti G yJ0_indexOf_0f7a4 cJ0_indexOf_0f7a4 2 (some .int) 3 70 [.ref 1012, .int x1] I (f_J0_indexOf_0f7a4_1012 x1 I) := by
  refine Cti.of (ls := [some (.ref 1012), some (.int x1)]) 0 hG (by decide) rfl (Nat.le_of_ble_eq_true rfl) ?_
  unfold f_J0_indexOf_0f7a4_1012
  refine J_aload_n (pc := 0) (x := 1012) dJ0_indexOf_0f7a4_0 rfl ?_
  refine J_iload_n (pc := 1) (x := x1) dJ0_indexOf_0f7a4_1 rfl ?_
  refine J_iconst (pc := 2) (v := (0 : Int32)) dJ0_indexOf_0f7a4_2 (by decide) ?_
  refine J_callTi (pc := 3) (j := 2) (as := [.int x1, .int (0 : Int32)]) (st := []) (c_J0_indexOf_7cf53_1012 hG hn x1 (0 : Int32) I) (by decide) (cw_RJ0_633 rfl) wd_624 wd_623 rfl ⟨Nat.le_of_ble_eq_true rfl, Nat.le_of_ble_eq_true rfl, Nat.le_of_ble_eq_true rfl, Nat.le_of_ble_eq_true rfl⟩ (Nat.le_of_ble_eq_true rfl) rfl dJ0_indexOf_0f7a4_3 (fun r2 I1 => ?_)
  exact J_iret (pc := 6) dJ0_indexOf_0f7a4_6
abbrev mu_J1_charAt_3b067_1022 (G : Gt) : Mt (Int32 × Mem) := mi G cJ1_charAt_3b067 2 yJ1_charAt_3b067.cls (some .char) 2 43
def f_J1_charAt_3b067_1022 (x1 : Int32) (I : Mem) : Option (Int32 × Mem) :=
  bV (fsci x1 (nI (sln.getD 2 0)) I) fun I1 => ck (inb x1 (sln.getD 2 0)) <| some ((((((sby.getD 2 []).getD (tn x1) 0) &&& (255 : Int32))).toUInt32 % 65536).toInt32, I1)
set_option maxRecDepth 100000 in
theorem c_J1_charAt_3b067_1022 {G : Gt} (hG : Gok G) (hn : Gn G) (x1 : Int32) (I : Mem) : Cti G yJ1_charAt_3b067 cJ1_charAt_3b067 2 (some .char) 2 43 [.ref 1022, .int x1] I (f_J1_charAt_3b067_1022 x1 I) := by
  refine Cti.of (ls := [some (.ref 1022), some (.int x1)]) 0 hG (by decide) rfl (Nat.le_of_ble_eq_true rfl) ?_
  unfold f_J1_charAt_3b067_1022
  refine J_iload_n (pc := 0) (x := x1) dJ1_charAt_3b067_0 rfl ?_
  refine J_aload_n (pc := 1) (x := 1022) dJ1_charAt_3b067_1 rfl ?_
  refine J_tln (pc := 2) (j := 2) (by decide) dJ1_charAt_3b067_2 ?_
  refine J_callSv (pc := 3) (as := [.int x1, .int (nI (sln.getD 2 0))]) (st := []) (c_sci hG hn x1 (nI (sln.getD 2 0)) I) (cw_RJ1_9 rfl) wd_629 rfl ⟨Nat.le_of_ble_eq_true rfl, Nat.le_of_ble_eq_true rfl, Nat.le_of_ble_eq_true rfl, Nat.le_of_ble_eq_true rfl⟩ (Nat.le_of_ble_eq_true rfl) rfl dJ1_charAt_3b067_3 (fun I1 => ?_)
  refine J_aload_n (pc := 6) (x := 1022) dJ1_charAt_3b067_6 rfl ?_
  refine J_iload_n (pc := 7) (x := x1) dJ1_charAt_3b067_7 rfl ?_
  refine J_ck (fun hc2 => ?_)
  refine J_bld (pc := 8) (j := 2) (k := (tn x1)) (by decide) (inb_in hc2) rfl dJ1_charAt_3b067_8 ?_
  refine J_sipush (pc := 9) (v := (255 : Int32)) dJ1_charAt_3b067_9 (by decide) ?_
  refine J_iand (pc := 12) dJ1_charAt_3b067_12 ?_
  refine J_i2c (pc := 13) dJ1_charAt_3b067_13 ?_
  exact J_zret (pc := 14) nar_c dJ1_charAt_3b067_14
abbrev mu_J0_charAt_5068e_1012 (G : Gt) : Mt (Int32 × Mem) := mi G cJ0_charAt_5068e 2 yJ0_charAt_5068e.cls (some .char) 3 64
def f_J0_charAt_5068e_1012 (x1 : Int32) (I : Mem) : Option (Int32 × Mem) :=
  bI (f_J0_isLatin1_aae02_1012 I) fun r2 I1 => (if r2 = 0 then none else bI (f_J1_charAt_3b067_1022 x1 I1) fun r4 I3 => ck (vp_nar .char r4 == r4) <| some (r4, I3))
set_option maxRecDepth 100000 in
theorem c_J0_charAt_5068e_1012 {G : Gt} (hG : Gok G) (hn : Gn G) (x1 : Int32) (I : Mem) : Cti G yJ0_charAt_5068e cJ0_charAt_5068e 2 (some .char) 3 64 [.ref 1012, .int x1] I (f_J0_charAt_5068e_1012 x1 I) := by
  refine Cti.of (ls := [some (.ref 1012), some (.int x1)]) 0 hG (by decide) rfl (Nat.le_of_ble_eq_true rfl) ?_
  unfold f_J0_charAt_5068e_1012
  refine J_aload_n (pc := 0) (x := 1012) dJ0_charAt_5068e_0 rfl ?_
  refine J_callTi (pc := 1) (j := 2) (as := []) (st := []) (c_J0_isLatin1_aae02_1012 hG hn I) (by decide) (cw_RJ0_492 rfl) wd_597 wd_596 rfl ⟨Nat.le_of_ble_eq_true rfl, Nat.le_of_ble_eq_true rfl, Nat.le_of_ble_eq_true rfl, Nat.le_of_ble_eq_true rfl⟩ (Nat.le_of_ble_eq_true rfl) rfl dJ0_charAt_5068e_1 (fun r2 I1 => ?_)
  refine J_if_eq (pc := 4) (tgt := 16) dJ0_charAt_5068e_4 (by decide) ?_ ?_
  · refine J_aload_n (pc := 16) (x := 1012) dJ0_charAt_5068e_16 rfl ?_
    refine J_gva (pc := 17) (j := 2) (by decide) wd_600 dJ0_charAt_5068e_17 ?_
    refine J_iload_n (pc := 20) (x := x1) dJ0_charAt_5068e_20 rfl ?_
    exact J_none
  · refine J_aload_n (pc := 7) (x := 1012) dJ0_charAt_5068e_7 rfl ?_
    refine J_gva (pc := 8) (j := 2) (by decide) wd_600 dJ0_charAt_5068e_8 ?_
    refine J_iload_n (pc := 11) (x := x1) dJ0_charAt_5068e_11 rfl ?_
    refine J_callSi (pc := 12) (as := [.ref 1022, .int x1]) (st := []) (c_J1_charAt_3b067_1022 hG hn x1 I1) (cw_RJ0_495 rfl) wd_630 rfl ⟨Nat.le_of_ble_eq_true rfl, Nat.le_of_ble_eq_true rfl, Nat.le_of_ble_eq_true rfl, Nat.le_of_ble_eq_true rfl⟩ (Nat.le_of_ble_eq_true rfl) rfl dJ0_charAt_5068e_12 (fun r4 I3 => ?_)
    refine J_ck (fun hc5 => ?_)
    exact J_zret (pc := 15) (nar_v hc5) dJ0_charAt_5068e_15
theorem bI_some {α : Type} (v : Int32) (I : Mem) (K : Int32 → Mem → Option α) : bI (some (v, I)) K = K v I := rfl
theorem bV_some {α : Type} (I : Mem) (K : Mem → Option α) : bV (some I) K = K I := rfl
theorem ck_t {α : Type} {b : Bool} {x : Option α} (h : b = true) : ck b x = x := if_pos h
theorem fx_s {τ : Type} (B : τ → τ) (z : τ) (n : Nat) : fx B z (n + 1) = B (fx B z n) := rfl
theorem fuel5 : ∃ m, fuel = m + 1 + 1 + 1 + 1 + 1 := ⟨4995, rfl⟩
theorem bytT : ∀ k, k < 256 → ∀ b ∈ [(110 : Int32), 99, 109, 98, 108, 114, 116], (b = (nI k).toInt8.toInt32 ↔ b = nI k) := by decide +kernel
theorem byt_of {x : Int32} (h0 : ¬ x < 0) (h1 : ¬ (255 : Int32) < x) : ∀ b ∈ [(110 : Int32), 99, 109, 98, 108, 114, 116], (b = x.toInt8.toInt32 ↔ b = x) := by
  obtain ⟨k, hk, rfl⟩ := nI_of2 (M := 255) (n := 255) (by decide) h0 (Int32.not_lt.mp h1)
  exact bytT k (by omega)
theorem sidx_0 (x : Int32) : sidx 0 x = if 110 = x then 0 else if 99 = x then 1 else if 109 = x then 2 else -1 := by
  unfold sidx
  simp only [sby, List.getD_cons_zero, List.findIdx?_cons, List.findIdx?_nil, beq_iff_eq]
  by_cases h1 : (110 : Int32) = x
  · simp [h1, nI_0]
  · by_cases h2 : (99 : Int32) = x
    · simp [h1, h2]; decide
    · by_cases h3 : (109 : Int32) = x
      · simp [h1, h2, h3]; decide
      · simp [h1, h2, h3]
theorem sidx_1 (x : Int32) : sidx 1 x = if 98 = x then 0 else if 108 = x then 1 else if 114 = x then 2 else if 116 = x then 3 else -1 := by
  unfold sidx
  simp only [sby, List.getD_cons_succ, List.getD_cons_zero, List.findIdx?_cons, List.findIdx?_nil, beq_iff_eq]
  by_cases h1 : (98 : Int32) = x
  · simp [h1, nI_0]
  · by_cases h2 : (108 : Int32) = x
    · simp [h1, h2]; decide
    · by_cases h3 : (114 : Int32) = x
      · simp [h1, h2, h3]; decide
      · by_cases h4 : (116 : Int32) = x
        · simp [h1, h2, h3, h4]; decide
        · simp [h1, h2, h3, h4]
theorem f_canEnc (x : Int32) (I : Mem) : f_J1_canEncode_9a6ad x I = if x < 0 then some (0, I) else if (255 : Int32) < x then some (0, I) else some (1, I) := rfl
theorem f_len_0 (I : Mem) : f_J0_length_8abf5_1010 I = some (3, I) := by
  show some (_, I) = some (_, I)
  congr 2
  show nI (sln.getD 0 0) >>> ((0 : Int32) &&& 31) = 3
  decide
theorem f_len_1 (I : Mem) : f_J0_length_8abf5_1011 I = some (4, I) := by
  show some (_, I) = some (_, I)
  congr 2
  show nI (sln.getD 1 0) >>> ((0 : Int32) &&& 31) = 4
  decide
theorem f_len_2 (I : Mem) : f_J0_length_8abf5_1012 I = some (slg 2, I) := by
  show some (_, I) = some (_, I)
  congr 2
  show nI (sln.getD 2 0) >>> ((0 : Int32) &&& 31) = slg 2
  decide
theorem f_lat_0 (I : Mem) : f_J0_isLatin1_aae02_1010 I = some (1, I) := rfl
theorem f_lat_1 (I : Mem) : f_J0_isLatin1_aae02_1011 I = some (1, I) := rfl
theorem f_lat_2 (I : Mem) : f_J0_isLatin1_aae02_1012 I = some (1, I) := rfl
theorem f_ioc_0 {x : Int32} (h0 : ¬ x < 0) (h1 : ¬ (255 : Int32) < x) (I : Mem) : f_J1_indexOfChar_4cfef_1020 x 0 3 I = some (sidx 0 x, I) := by
  have hb := byt_of h0 h1
  have e0 := hb 110 (by decide)
  have e1 := hb 99 (by decide)
  have e2 := hb 109 (by decide)
  unfold f_J1_indexOfChar_4cfef_1020 l_J1_indexOfChar_4cfef_1020_7
  obtain ⟨m5, hm5⟩ := fuel5
  rw [hm5, sidx_0]
  generalize x.toInt8.toInt32 = x4 at *
  have s0 : ∀ (K22 : Int32 → Mem → Option (Int32 × Mem)) (K31 : Mem → Option (Int32 × Mem)) (R : Int32 → Int32 → Int32 → Mem → Option (Int32 × Mem)), b_J1_indexOfChar_4cfef_1020_7 K22 K31 R 3 x4 0 I = if (110 : Int32) = x4 then K22 0 I else R 3 x4 1 I := fun K22 K31 R => by unfold b_J1_indexOfChar_4cfef_1020_7; rw [if_neg (by decide), ck_t (by decide)]; rfl
  have s1 : ∀ (K22 : Int32 → Mem → Option (Int32 × Mem)) (K31 : Mem → Option (Int32 × Mem)) (R : Int32 → Int32 → Int32 → Mem → Option (Int32 × Mem)), b_J1_indexOfChar_4cfef_1020_7 K22 K31 R 3 x4 1 I = if (99 : Int32) = x4 then K22 1 I else R 3 x4 2 I := fun K22 K31 R => by unfold b_J1_indexOfChar_4cfef_1020_7; rw [if_neg (by decide), ck_t (by decide)]; rfl
  have s2 : ∀ (K22 : Int32 → Mem → Option (Int32 × Mem)) (K31 : Mem → Option (Int32 × Mem)) (R : Int32 → Int32 → Int32 → Mem → Option (Int32 × Mem)), b_J1_indexOfChar_4cfef_1020_7 K22 K31 R 3 x4 2 I = if (109 : Int32) = x4 then K22 2 I else R 3 x4 3 I := fun K22 K31 R => by unfold b_J1_indexOfChar_4cfef_1020_7; rw [if_neg (by decide), ck_t (by decide)]; rfl
  have s3 : ∀ (K22 : Int32 → Mem → Option (Int32 × Mem)) (K31 : Mem → Option (Int32 × Mem)) (R : Int32 → Int32 → Int32 → Mem → Option (Int32 × Mem)), b_J1_indexOfChar_4cfef_1020_7 K22 K31 R 3 x4 3 I = K31 I := fun K22 K31 R => by unfold b_J1_indexOfChar_4cfef_1020_7; rw [if_pos (by decide)]
  rw [fx_s, s0, fx_s, s1, fx_s, s2, fx_s, s3]
  by_cases q0 : (110 : Int32) = x
  · rw [if_pos (e0.mpr q0), if_pos q0]
  · rw [if_neg (fun h => q0 (e0.mp h)), if_neg q0]
    by_cases q1 : (99 : Int32) = x
    · rw [if_pos (e1.mpr q1), if_pos q1]
    · rw [if_neg (fun h => q1 (e1.mp h)), if_neg q1]
      by_cases q2 : (109 : Int32) = x
      · rw [if_pos (e2.mpr q2), if_pos q2]
      · rw [if_neg (fun h => q2 (e2.mp h)), if_neg q2]
theorem f_ioc_1 {x : Int32} (h0 : ¬ x < 0) (h1 : ¬ (255 : Int32) < x) (I : Mem) : f_J1_indexOfChar_4cfef_1021 x 0 4 I = some (sidx 1 x, I) := by
  have hb := byt_of h0 h1
  have e0 := hb 98 (by decide)
  have e1 := hb 108 (by decide)
  have e2 := hb 114 (by decide)
  have e3 := hb 116 (by decide)
  unfold f_J1_indexOfChar_4cfef_1021 l_J1_indexOfChar_4cfef_1021_7
  obtain ⟨m5, hm5⟩ := fuel5
  rw [hm5, sidx_1]
  generalize x.toInt8.toInt32 = x4 at *
  have s0 : ∀ (K22 : Int32 → Mem → Option (Int32 × Mem)) (K31 : Mem → Option (Int32 × Mem)) (R : Int32 → Int32 → Int32 → Mem → Option (Int32 × Mem)), b_J1_indexOfChar_4cfef_1021_7 K22 K31 R 4 x4 0 I = if (98 : Int32) = x4 then K22 0 I else R 4 x4 1 I := fun K22 K31 R => by unfold b_J1_indexOfChar_4cfef_1021_7; rw [if_neg (by decide), ck_t (by decide)]; rfl
  have s1 : ∀ (K22 : Int32 → Mem → Option (Int32 × Mem)) (K31 : Mem → Option (Int32 × Mem)) (R : Int32 → Int32 → Int32 → Mem → Option (Int32 × Mem)), b_J1_indexOfChar_4cfef_1021_7 K22 K31 R 4 x4 1 I = if (108 : Int32) = x4 then K22 1 I else R 4 x4 2 I := fun K22 K31 R => by unfold b_J1_indexOfChar_4cfef_1021_7; rw [if_neg (by decide), ck_t (by decide)]; rfl
  have s2 : ∀ (K22 : Int32 → Mem → Option (Int32 × Mem)) (K31 : Mem → Option (Int32 × Mem)) (R : Int32 → Int32 → Int32 → Mem → Option (Int32 × Mem)), b_J1_indexOfChar_4cfef_1021_7 K22 K31 R 4 x4 2 I = if (114 : Int32) = x4 then K22 2 I else R 4 x4 3 I := fun K22 K31 R => by unfold b_J1_indexOfChar_4cfef_1021_7; rw [if_neg (by decide), ck_t (by decide)]; rfl
  have s3 : ∀ (K22 : Int32 → Mem → Option (Int32 × Mem)) (K31 : Mem → Option (Int32 × Mem)) (R : Int32 → Int32 → Int32 → Mem → Option (Int32 × Mem)), b_J1_indexOfChar_4cfef_1021_7 K22 K31 R 4 x4 3 I = if (116 : Int32) = x4 then K22 3 I else R 4 x4 4 I := fun K22 K31 R => by unfold b_J1_indexOfChar_4cfef_1021_7; rw [if_neg (by decide), ck_t (by decide)]; rfl
  have s4 : ∀ (K22 : Int32 → Mem → Option (Int32 × Mem)) (K31 : Mem → Option (Int32 × Mem)) (R : Int32 → Int32 → Int32 → Mem → Option (Int32 × Mem)), b_J1_indexOfChar_4cfef_1021_7 K22 K31 R 4 x4 4 I = K31 I := fun K22 K31 R => by unfold b_J1_indexOfChar_4cfef_1021_7; rw [if_pos (by decide)]
  rw [fx_s, s0, fx_s, s1, fx_s, s2, fx_s, s3, fx_s, s4]
  by_cases q0 : (98 : Int32) = x
  · rw [if_pos (e0.mpr q0), if_pos q0]
  · rw [if_neg (fun h => q0 (e0.mp h)), if_neg q0]
    by_cases q1 : (108 : Int32) = x
    · rw [if_pos (e1.mpr q1), if_pos q1]
    · rw [if_neg (fun h => q1 (e1.mp h)), if_neg q1]
      by_cases q2 : (114 : Int32) = x
      · rw [if_pos (e2.mpr q2), if_pos q2]
      · rw [if_neg (fun h => q2 (e2.mp h)), if_neg q2]
        by_cases q3 : (116 : Int32) = x
        · rw [if_pos (e3.mpr q3), if_pos q3]
        · rw [if_neg (fun h => q3 (e3.mp h)), if_neg q3]
theorem sidx_out {x : Int32} (h : x < 0 ∨ (255 : Int32) < x) : sidx 0 x = -1 ∧ sidx 1 x = -1 := by
  have ne : ∀ b : Int32, ¬ b < 0 → ¬ (255 : Int32) < b → ¬ b = x := fun b h1 h2 e => by subst e; exact h.elim h1 h2
  rw [sidx_0, sidx_1, if_neg (ne _ (by decide) (by decide)), if_neg (ne _ (by decide) (by decide)), if_neg (ne _ (by decide) (by decide)), if_neg (ne _ (by decide) (by decide)), if_neg (ne _ (by decide) (by decide)), if_neg (ne _ (by decide) (by decide)), if_neg (ne _ (by decide) (by decide))]
  exact ⟨rfl, rfl⟩
theorem f_io_0 (x : Int32) (I : Mem) : f_J0_indexOf_0f7a4_1010 x I = some (sidx 0 x, I) := by
  unfold f_J0_indexOf_0f7a4_1010 f_J0_indexOf_7cf53_1010
  rw [f_lat_0, bI_some, if_neg (by decide), f_len_0, bI_some]
  unfold f_J1_indexOf_4cfef_1020
  rw [f_canEnc]
  by_cases h0 : x < 0
  · rw [if_pos h0, bI_some, if_pos rfl, (sidx_out (Or.inl h0)).1]; rfl
  · rw [if_neg h0]
    by_cases h1 : (255 : Int32) < x
    · rw [if_pos h1, bI_some, if_pos rfl, (sidx_out (Or.inr h1)).1]; rfl
    · rw [if_neg h1, bI_some, if_neg (by decide), if_pos (by decide)]
      show bI (bI (bI (f_J1_indexOfChar_4cfef_1020 x 0 3 I) _) _) _ = _
      rw [f_ioc_0 h0 h1, bI_some, bI_some, bI_some]
theorem f_io_1 (x : Int32) (I : Mem) : f_J0_indexOf_0f7a4_1011 x I = some (sidx 1 x, I) := by
  unfold f_J0_indexOf_0f7a4_1011 f_J0_indexOf_7cf53_1011
  rw [f_lat_1, bI_some, if_neg (by decide), f_len_1, bI_some]
  unfold f_J1_indexOf_4cfef_1021
  rw [f_canEnc]
  by_cases h0 : x < 0
  · rw [if_pos h0, bI_some, if_pos rfl, (sidx_out (Or.inl h0)).2]; rfl
  · rw [if_neg h0]
    by_cases h1 : (255 : Int32) < x
    · rw [if_pos h1, bI_some, if_pos rfl, (sidx_out (Or.inr h1)).2]; rfl
    · rw [if_neg h1, bI_some, if_neg (by decide), if_pos (by decide)]
      show bI (bI (bI (f_J1_indexOfChar_4cfef_1021 x 0 4 I) _) _) _ = _
      rw [f_ioc_1 h0 h1, bI_some, bI_some, bI_some]
theorem sch_T : ∀ j, j < 3 → ∀ k, k < sln.getD j 0 → ((((sby.getD j []).getD k 0 &&& (255 : Int32)).toUInt32 % 65536).toInt32 = (sby.getD j []).getD k 0 ∧ (vp_nar .char ((sby.getD j []).getD k 0) == (sby.getD j []).getD k 0) = true) := by decide +kernel
theorem inb_nI {i : Int32} {n : Nat} (h : inb i n = true) : ∃ k, k < n ∧ k < 2 ^ 31 ∧ i = nI k := by
  have h1 := inb_in h
  have h0 : ¬ i < 0 := fun q => h1 (Or.inl q)
  obtain ⟨j, hj, rfl⟩ := nI_of h0
  refine ⟨j, ?_, hj, rfl⟩
  have : ¬ n ≤ (nI j).toNatClampNeg := fun q => h1 (Or.inr q)
  rw [nI_clamp hj] at this
  omega
theorem f_ca_1 {i : Int32} (hc : inb i (sln.getD 1 0) = true) (I : Mem) : f_J0_charAt_5068e_1011 i I = some (sch 1 i, I) := by
  unfold f_J0_charAt_5068e_1011 f_J1_charAt_3b067_1021 fsci fpci
  obtain ⟨k, hk, hk31, rfl⟩ := inb_nI hc
  have hT := sch_T 1 (by decide) k hk
  rw [f_lat_1, bI_some, if_neg (by decide), if_neg (nI_pos hk31), if_pos (nI_lt hk (by decide)), bI_some, bV_some, ck_t hc]
  unfold sch
  show bI (some (_, I)) _ = _
  rw [bI_some, show tn (nI k) = k from nI_clamp hk31, hT.1, ck_t hT.2]
theorem f_ca_2 {i : Int32} (hc : inb i (sln.getD 2 0) = true) (I : Mem) : f_J0_charAt_5068e_1012 i I = some (sch 2 i, I) := by
  unfold f_J0_charAt_5068e_1012 f_J1_charAt_3b067_1022 fsci fpci
  obtain ⟨k, hk, hk31, rfl⟩ := inb_nI hc
  have hT := sch_T 2 (by decide) k hk
  rw [f_lat_2, bI_some, if_neg (by decide), if_neg (nI_pos hk31), if_pos (nI_lt hk (by decide)), bI_some, bV_some, ck_t hc]
  unfold sch
  show bI (some (_, I)) _ = _
  rw [bI_some, show tn (nI k) = k from nI_clamp hk31, hT.1, ck_t hT.2]
theorem c_sidx {G : Gt} (hG : Gok G) (hn : Gn G) (j : Nat) (hj : j < 2) (x : Int32) (I : Mem) : Cti G yJ0_indexOf_0f7a4 cJ0_indexOf_0f7a4 2 (some .int) 3 70 [.ref (1010 + j), .int x] I (some (sidx j x, I)) := by
  match j, hj with
  | 0, _ => exact f_io_0 x I ▸ c_J0_indexOf_0f7a4_1010 hG hn x I
  | 1, _ => exact f_io_1 x I ▸ c_J0_indexOf_0f7a4_1011 hG hn x I
theorem c_sch {G : Gt} (hG : Gok G) (hn : Gn G) (j : Nat) (hj : j = 1 ∨ j = 2) (i : Int32) (hc : inb i (sln.getD j 0) = true) (I : Mem) : Cti G yJ0_charAt_5068e cJ0_charAt_5068e 2 (some .char) 3 64 [.ref (1010 + j), .int i] I (some (sch j i, I)) := by
  rcases hj with rfl | rfl
  · exact f_ca_1 hc I ▸ c_J0_charAt_5068e_1011 hG hn i I
  · exact f_ca_2 hc I ▸ c_J0_charAt_5068e_1012 hG hn i I
theorem c_slg {G : Gt} (hG : Gok G) (hn : Gn G) (j : Nat) (hj : j = 2) (I : Mem) : Cti G yJ0_length_8abf5 cJ0_length_8abf5 1 (some .int) 1 20 [.ref (1010 + j)] I (some (slg j, I)) := by
  subst hj
  exact f_len_2 I ▸ c_J0_length_8abf5_1012 hG hn I
