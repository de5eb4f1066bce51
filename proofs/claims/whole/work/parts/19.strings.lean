/-- where a letter stands in a text, -1 if nowhere -/
def sidx (j : Nat) (x : Int32) : Int32 := match (sby.getD j []).findIdx? (fun b => b == x) with
  | some k => nI k
  | none => -1
def sch (j : Nat) (i : Int32) : Int32 := (sby.getD j []).getD (tn i) 0
def slg (j : Nat) : Int32 := nI (sln.getD j 0)
theorem c_sidx {G : Gt} (hG : Gok G) (hn : Gn G) (j : Nat) (hj : j < 3) (x : Int32) (I : Mem) : Cti G yJ0_indexOf_0f7a4 cJ0_indexOf_0f7a4 2 (some .int) 3 70 [.ref (1010 + j), .int x] I (some (sidx j x, I)) := sorry
theorem c_sch {G : Gt} (hG : Gok G) (hn : Gn G) (j : Nat) (hj : j < 3) (i : Int32) (hc : inb i (sln.getD j 0) = true) (I : Mem) : Cti G yJ0_charAt_5068e cJ0_charAt_5068e 2 (some .char) 3 64 [.ref (1010 + j), .int i] I (some (sch j i, I)) := sorry
theorem c_slg {G : Gt} (hG : Gok G) (hn : Gn G) (j : Nat) (hj : j < 3) (I : Mem) : Cti G yJ0_length_8abf5 cJ0_length_8abf5 1 (some .int) 1 20 [.ref (1010 + j)] I (some (slg j, I)) := sorry
