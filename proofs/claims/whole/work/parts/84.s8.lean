/-! a row for each instruction (by program, wip/whole/gen2.py) -/
section SROWS
variable {ls : vL} {st : List Value} {h : vH}
theorem s0_0 {x : Nat} : runv 0 0 (some (.ref x) :: ls) st h = runv 0 1 (some (.ref x) :: ls) (.ref x :: st) h := runv_plain (x := (.aload_n 0, 1, 0, 0)) rfl rfl
theorem s0_1 {a : Nat} (h1 : st.length ≤ 4) : runv 0 1 ls (.ref a :: st) h = runv 0 4 ls st h := (runv_plain (x := (.invokespecial 1, 3, 1000, 0)) rfl rfl).trans (by simp only [vstep]; rw [if_pos ⟨trivial, h1⟩]; rfl)
theorem s0_4 {x : Nat} : runv 0 4 (some (.ref x) :: ls) st h = runv 0 5 (some (.ref x) :: ls) (.ref x :: st) h := runv_plain (x := (.aload_n 0, 1, 0, 0)) rfl rfl
theorem s0_5 : runv 0 5 ls st h = runv 0 8 ls (.ref h.length :: st) (h ++ [(1, vdef 1)]) := runv_plain (x := (.new 7, 3, 1, 0)) rfl rfl
theorem s0_8 {x : Int32} : runv 0 8 ls (.int x :: st) h = runv 0 9 ls (.int x :: .int x :: st) h := runv_plain (x := (.dup, 1, 0, 0)) rfl rfl
theorem r0_8 {x : Nat} : runv 0 8 ls (.ref x :: st) h = runv 0 9 ls (.ref x :: .ref x :: st) h := runv_plain (x := (.dup, 1, 0, 0)) rfl rfl
theorem s0_9 : runv 0 9 ls st h = runv 0 12 ls (.int 500 :: st) h := runv_plain (x := (.sipush (500), 3, 0, 0)) rfl rfl
theorem s0_12 {a : Nat} {p0 : Int32} (h1 : st.length ≤ 4) : runv 0 12 ls (.int p0 :: .ref a :: st) h = vbind (callv 141 [.ref a, .int p0] h) fun v h' => runv 0 15 ls (vpush v st) h' := runv_call (show vcode 0 12 = some (.invokespecial 11, 3, 141, 2) from rfl) rfl (vcall_mk rfl rfl h1 (by decide) rfl rfl)
theorem s0_15 {a : Nat} {v : Value} : runv 0 15 ls (v :: .ref a :: st) h = vpf h a 0 0 v fun h1 => runv 0 18 ls st h1 := runv_put (show vcode 0 15 = some (.putfield 14, 3, 0, 0) from rfl)
theorem s0_18 {x : Nat} : runv 0 18 (some (.ref x) :: ls) st h = runv 0 19 (some (.ref x) :: ls) (.ref x :: st) h := runv_plain (x := (.aload_n 0, 1, 0, 0)) rfl rfl
theorem s0_19 : runv 0 19 ls st h = runv 0 22 ls (.ref h.length :: st) (h ++ [(4, vdef 4)]) := runv_plain (x := (.new 18, 3, 4, 0)) rfl rfl
theorem s0_22 {x : Int32} : runv 0 22 ls (.int x :: st) h = runv 0 23 ls (.int x :: .int x :: st) h := runv_plain (x := (.dup, 1, 0, 0)) rfl rfl
theorem r0_22 {x : Nat} : runv 0 22 ls (.ref x :: st) h = runv 0 23 ls (.ref x :: .ref x :: st) h := runv_plain (x := (.dup, 1, 0, 0)) rfl rfl
theorem s0_23 : runv 0 23 ls st h = runv 0 25 ls (.int 16 :: st) h := runv_plain (x := (.bipush (16), 2, 0, 0)) rfl rfl
theorem s0_25 {a : Nat} {p0 : Int32} (h1 : st.length ≤ 4) : runv 0 25 ls (.int p0 :: .ref a :: st) h = vbind (callv 157 [.ref a, .int p0] h) fun v h' => runv 0 28 ls (vpush v st) h' := runv_call (show vcode 0 25 = some (.invokespecial 20, 3, 157, 2) from rfl) rfl (vcall_mk rfl rfl h1 (by decide) rfl rfl)
theorem s0_28 {a : Nat} {v : Value} : runv 0 28 ls (v :: .ref a :: st) h = vpf h a 0 1 v fun h1 => runv 0 31 ls st h1 := runv_put (show vcode 0 28 = some (.putfield 21, 3, 0, 1) from rfl)
theorem s0_31 {x : Nat} : runv 0 31 (some (.ref x) :: ls) st h = runv 0 32 (some (.ref x) :: ls) (.ref x :: st) h := runv_plain (x := (.aload_n 0, 1, 0, 0)) rfl rfl
theorem s0_32 : runv 0 32 ls st h = runv 0 35 ls (.ref h.length :: st) (h ++ [(4, vdef 4)]) := runv_plain (x := (.new 18, 3, 4, 0)) rfl rfl
theorem s0_35 {x : Int32} : runv 0 35 ls (.int x :: st) h = runv 0 36 ls (.int x :: .int x :: st) h := runv_plain (x := (.dup, 1, 0, 0)) rfl rfl
theorem r0_35 {x : Nat} : runv 0 35 ls (.ref x :: st) h = runv 0 36 ls (.ref x :: .ref x :: st) h := runv_plain (x := (.dup, 1, 0, 0)) rfl rfl
theorem s0_36 : runv 0 36 ls st h = runv 0 38 ls (.int 24 :: st) h := runv_plain (x := (.bipush (24), 2, 0, 0)) rfl rfl
theorem s0_38 {a : Nat} {p0 : Int32} (h1 : st.length ≤ 4) : runv 0 38 ls (.int p0 :: .ref a :: st) h = vbind (callv 157 [.ref a, .int p0] h) fun v h' => runv 0 41 ls (vpush v st) h' := runv_call (show vcode 0 38 = some (.invokespecial 20, 3, 157, 2) from rfl) rfl (vcall_mk rfl rfl h1 (by decide) rfl rfl)
theorem s0_41 {a : Nat} {v : Value} : runv 0 41 ls (v :: .ref a :: st) h = vpf h a 0 2 v fun h1 => runv 0 44 ls st h1 := runv_put (show vcode 0 41 = some (.putfield 25, 3, 0, 2) from rfl)
theorem s0_44 {x : Nat} : runv 0 44 (some (.ref x) :: ls) st h = runv 0 45 (some (.ref x) :: ls) (.ref x :: st) h := runv_plain (x := (.aload_n 0, 1, 0, 0)) rfl rfl
theorem s0_45 : runv 0 45 ls st h = runv 0 48 ls (.ref h.length :: st) (h ++ [(3, vdef 3)]) := runv_plain (x := (.new 28, 3, 3, 0)) rfl rfl
theorem s0_48 {x : Int32} : runv 0 48 ls (.int x :: st) h = runv 0 49 ls (.int x :: .int x :: st) h := runv_plain (x := (.dup, 1, 0, 0)) rfl rfl
theorem r0_48 {x : Nat} : runv 0 48 ls (.ref x :: st) h = runv 0 49 ls (.ref x :: .ref x :: st) h := runv_plain (x := (.dup, 1, 0, 0)) rfl rfl
theorem s0_49 {a : Nat} (h1 : st.length ≤ 4) : runv 0 49 ls (.ref a :: st) h = vbind (callv 96 [.ref a] h) fun v h' => runv 0 52 ls (vpush v st) h' := runv_call (show vcode 0 49 = some (.invokespecial 30, 3, 96, 1) from rfl) rfl (vcall_mk rfl rfl h1 (by decide) rfl rfl)
theorem s0_52 {a : Nat} {v : Value} : runv 0 52 ls (v :: .ref a :: st) h = vpf h a 0 3 v fun h1 => runv 0 55 ls st h1 := runv_put (show vcode 0 52 = some (.putfield 31, 3, 0, 3) from rfl)
theorem s0_55 {x : Nat} : runv 0 55 (some (.ref x) :: ls) st h = runv 0 56 (some (.ref x) :: ls) (.ref x :: st) h := runv_plain (x := (.aload_n 0, 1, 0, 0)) rfl rfl
theorem s0_56 : runv 0 56 ls st h = runv 0 57 ls (.int 4 :: st) h := runv_plain (x := (.iconst 4, 1, 0, 0)) rfl rfl
theorem s0_57 {x : Int32} : runv 0 57 ls (.int x :: st) h = if ¬ x < 0 ∧ x.toNatClampNeg ≤ 100000 then runv 0 59 ls (.ref h.length :: st) (h ++ [(100, List.replicate x.toNatClampNeg (.int 0))]) else none := (runv_plain (x := (.newarray .int, 2, 0, 0)) rfl rfl).trans (by simp only [vstep]; split <;> rfl)
theorem s0_59 {a : Nat} {v : Value} : runv 0 59 ls (v :: .ref a :: st) h = vpf h a 0 4 v fun h1 => runv 0 62 ls st h1 := runv_put (show vcode 0 59 = some (.putfield 35, 3, 0, 4) from rfl)
theorem s0_62 {x : Nat} : runv 0 62 (some (.ref x) :: ls) st h = runv 0 63 (some (.ref x) :: ls) (.ref x :: st) h := runv_plain (x := (.aload_n 0, 1, 0, 0)) rfl rfl
theorem s0_63 {a : Nat} : runv 0 63 ls (.ref a :: st) h = vgf h a 0 4 fun v => runv 0 66 ls (v :: st) h := runv_get (show vcode 0 63 = some (.getfield 35, 3, 0, 4) from rfl)
theorem s0_66 : runv 0 66 ls st h = runv 0 67 ls (.int (-1) :: st) h := runv_plain (x := (.iconst (-1), 1, 0, 0)) rfl rfl
theorem s0_67 {p0 : Nat} {p1 : Int32} (h1 : st.length ≤ 4) : runv 0 67 ls (.int p1 :: .ref p0 :: st) h = vbind (callv 167 [.ref p0, .int p1] h) fun v h' => runv 0 70 ls (vpush v st) h' := runv_call (show vcode 0 67 = some (.invokestatic 39, 3, 167, 2) from rfl) rfl (vcall_mk rfl rfl h1 (by decide) rfl rfl)
theorem s0_70 {x : Nat} : runv 0 70 (some (.ref x) :: ls) st h = runv 0 71 (some (.ref x) :: ls) (.ref x :: st) h := runv_plain (x := (.aload_n 0, 1, 0, 0)) rfl rfl
theorem s0_71 : runv 0 71 ls st h = runv 0 74 ls (.ref h.length :: st) (h ++ [(2, vdef 2)]) := runv_plain (x := (.new 45, 3, 2, 0)) rfl rfl
theorem s0_74 {x : Int32} : runv 0 74 ls (.int x :: st) h = runv 0 75 ls (.int x :: .int x :: st) h := runv_plain (x := (.dup, 1, 0, 0)) rfl rfl
theorem r0_74 {x : Nat} : runv 0 74 ls (.ref x :: st) h = runv 0 75 ls (.ref x :: .ref x :: st) h := runv_plain (x := (.dup, 1, 0, 0)) rfl rfl
theorem s0_75 : runv 0 75 ls st h = runv 0 77 ls (.int 16 :: st) h := runv_plain (x := (.bipush (16), 2, 0, 0)) rfl rfl
theorem s0_77 {a : Nat} {p0 : Int32} (h1 : st.length ≤ 4) : runv 0 77 ls (.int p0 :: .ref a :: st) h = vbind (callv 91 [.ref a, .int p0] h) fun v h' => runv 0 80 ls (vpush v st) h' := runv_call (show vcode 0 77 = some (.invokespecial 47, 3, 91, 2) from rfl) rfl (vcall_mk rfl rfl h1 (by decide) rfl rfl)
theorem s0_80 {a : Nat} {v : Value} : runv 0 80 ls (v :: .ref a :: st) h = vpf h a 0 5 v fun h1 => runv 0 83 ls st h1 := runv_put (show vcode 0 80 = some (.putfield 48, 3, 0, 5) from rfl)
theorem s0_83 {x : Nat} : runv 0 83 (some (.ref x) :: ls) st h = runv 0 84 (some (.ref x) :: ls) (.ref x :: st) h := runv_plain (x := (.aload_n 0, 1, 0, 0)) rfl rfl
theorem s0_84 : runv 0 84 ls st h = runv 0 87 ls (.ref h.length :: st) (h ++ [(2, vdef 2)]) := runv_plain (x := (.new 45, 3, 2, 0)) rfl rfl
theorem s0_87 {x : Int32} : runv 0 87 ls (.int x :: st) h = runv 0 88 ls (.int x :: .int x :: st) h := runv_plain (x := (.dup, 1, 0, 0)) rfl rfl
theorem r0_87 {x : Nat} : runv 0 87 ls (.ref x :: st) h = runv 0 88 ls (.ref x :: .ref x :: st) h := runv_plain (x := (.dup, 1, 0, 0)) rfl rfl
theorem s0_88 : runv 0 88 ls st h = runv 0 90 ls (.int 8 :: st) h := runv_plain (x := (.bipush (8), 2, 0, 0)) rfl rfl
theorem s0_90 {a : Nat} {p0 : Int32} (h1 : st.length ≤ 4) : runv 0 90 ls (.int p0 :: .ref a :: st) h = vbind (callv 91 [.ref a, .int p0] h) fun v h' => runv 0 93 ls (vpush v st) h' := runv_call (show vcode 0 90 = some (.invokespecial 47, 3, 91, 2) from rfl) rfl (vcall_mk rfl rfl h1 (by decide) rfl rfl)
theorem s0_93 {a : Nat} {v : Value} : runv 0 93 ls (v :: .ref a :: st) h = vpf h a 0 6 v fun h1 => runv 0 96 ls st h1 := runv_put (show vcode 0 93 = some (.putfield 52, 3, 0, 6) from rfl)
theorem s0_96 {x : Nat} : runv 0 96 (some (.ref x) :: ls) st h = runv 0 97 (some (.ref x) :: ls) (.ref x :: st) h := runv_plain (x := (.aload_n 0, 1, 0, 0)) rfl rfl
theorem s0_97 : runv 0 97 ls st h = runv 0 100 ls (.ref h.length :: st) (h ++ [(5, vdef 5)]) := runv_plain (x := (.new 55, 3, 5, 0)) rfl rfl
theorem s0_100 {x : Int32} : runv 0 100 ls (.int x :: st) h = runv 0 101 ls (.int x :: .int x :: st) h := runv_plain (x := (.dup, 1, 0, 0)) rfl rfl
theorem r0_100 {x : Nat} : runv 0 100 ls (.ref x :: st) h = runv 0 101 ls (.ref x :: .ref x :: st) h := runv_plain (x := (.dup, 1, 0, 0)) rfl rfl
theorem s0_101 : runv 0 101 ls st h = runv 0 103 ls (.int 24 :: st) h := runv_plain (x := (.bipush (24), 2, 0, 0)) rfl rfl
theorem s0_103 {a : Nat} {p0 : Int32} (h1 : st.length ≤ 4) : runv 0 103 ls (.int p0 :: .ref a :: st) h = vbind (callv 75 [.ref a, .int p0] h) fun v h' => runv 0 106 ls (vpush v st) h' := runv_call (show vcode 0 103 = some (.invokespecial 57, 3, 75, 2) from rfl) rfl (vcall_mk rfl rfl h1 (by decide) rfl rfl)
theorem s0_106 {a : Nat} {v : Value} : runv 0 106 ls (v :: .ref a :: st) h = vpf h a 0 7 v fun h1 => runv 0 109 ls st h1 := runv_put (show vcode 0 106 = some (.putfield 58, 3, 0, 7) from rfl)
theorem s0_109 {x : Nat} : runv 0 109 (some (.ref x) :: ls) st h = runv 0 110 (some (.ref x) :: ls) (.ref x :: st) h := runv_plain (x := (.aload_n 0, 1, 0, 0)) rfl rfl
theorem s0_110 : runv 0 110 ls st h = runv 0 113 ls (.ref h.length :: st) (h ++ [(5, vdef 5)]) := runv_plain (x := (.new 55, 3, 5, 0)) rfl rfl
theorem s0_113 {x : Int32} : runv 0 113 ls (.int x :: st) h = runv 0 114 ls (.int x :: .int x :: st) h := runv_plain (x := (.dup, 1, 0, 0)) rfl rfl
theorem r0_113 {x : Nat} : runv 0 113 ls (.ref x :: st) h = runv 0 114 ls (.ref x :: .ref x :: st) h := runv_plain (x := (.dup, 1, 0, 0)) rfl rfl
theorem s0_114 : runv 0 114 ls st h = runv 0 116 ls (.int 16 :: st) h := runv_plain (x := (.bipush (16), 2, 0, 0)) rfl rfl
theorem s0_116 {a : Nat} {p0 : Int32} (h1 : st.length ≤ 4) : runv 0 116 ls (.int p0 :: .ref a :: st) h = vbind (callv 75 [.ref a, .int p0] h) fun v h' => runv 0 119 ls (vpush v st) h' := runv_call (show vcode 0 116 = some (.invokespecial 57, 3, 75, 2) from rfl) rfl (vcall_mk rfl rfl h1 (by decide) rfl rfl)
theorem s0_119 {a : Nat} {v : Value} : runv 0 119 ls (v :: .ref a :: st) h = vpf h a 0 8 v fun h1 => runv 0 122 ls st h1 := runv_put (show vcode 0 119 = some (.putfield 62, 3, 0, 8) from rfl)
theorem s0_122 {x : Nat} : runv 0 122 (some (.ref x) :: ls) st h = runv 0 123 (some (.ref x) :: ls) (.ref x :: st) h := runv_plain (x := (.aload_n 0, 1, 0, 0)) rfl rfl
theorem s0_123 : runv 0 123 ls st h = runv 0 126 ls (.ref h.length :: st) (h ++ [(6, vdef 6)]) := runv_plain (x := (.new 65, 3, 6, 0)) rfl rfl
theorem s0_126 {x : Int32} : runv 0 126 ls (.int x :: st) h = runv 0 127 ls (.int x :: .int x :: st) h := runv_plain (x := (.dup, 1, 0, 0)) rfl rfl
theorem r0_126 {x : Nat} : runv 0 126 ls (.ref x :: st) h = runv 0 127 ls (.ref x :: .ref x :: st) h := runv_plain (x := (.dup, 1, 0, 0)) rfl rfl
theorem s0_127 {x : Nat} : runv 0 127 (some (.ref x) :: ls) st h = runv 0 128 (some (.ref x) :: ls) (.ref x :: st) h := runv_plain (x := (.aload_n 0, 1, 0, 0)) rfl rfl
theorem s0_128 {a : Nat} : runv 0 128 ls (.ref a :: st) h = vgf h a 0 1 fun v => runv 0 131 ls (v :: st) h := runv_get (show vcode 0 128 = some (.getfield 21, 3, 0, 1) from rfl)
theorem s0_131 {x : Nat} : runv 0 131 (some (.ref x) :: ls) st h = runv 0 132 (some (.ref x) :: ls) (.ref x :: st) h := runv_plain (x := (.aload_n 0, 1, 0, 0)) rfl rfl
theorem s0_132 {a : Nat} : runv 0 132 ls (.ref a :: st) h = vgf h a 0 0 fun v => runv 0 135 ls (v :: st) h := runv_get (show vcode 0 132 = some (.getfield 14, 3, 0, 0) from rfl)
theorem s0_135 {a : Nat} {p0 : Nat} {p1 : Nat} (h1 : st.length ≤ 4) : runv 0 135 ls (.ref p1 :: .ref p0 :: .ref a :: st) h = vbind (callv 131 [.ref a, .ref p0, .ref p1] h) fun v h' => runv 0 138 ls (vpush v st) h' := runv_call (show vcode 0 135 = some (.invokespecial 67, 3, 131, 3) from rfl) rfl (vcall_mk rfl rfl h1 (by decide) rfl rfl)
theorem s0_138 {a : Nat} {v : Value} : runv 0 138 ls (v :: .ref a :: st) h = vpf h a 0 9 v fun h1 => runv 0 141 ls st h1 := runv_put (show vcode 0 138 = some (.putfield 70, 3, 0, 9) from rfl)
theorem s0_141 {x : Nat} : runv 0 141 (some (.ref x) :: ls) st h = runv 0 142 (some (.ref x) :: ls) (.ref x :: st) h := runv_plain (x := (.aload_n 0, 1, 0, 0)) rfl rfl
theorem s0_142 : runv 0 142 ls st h = runv 0 145 ls (.ref h.length :: st) (h ++ [(8, vdef 8)]) := runv_plain (x := (.new 74, 3, 8, 0)) rfl rfl
theorem s0_145 {x : Int32} : runv 0 145 ls (.int x :: st) h = runv 0 146 ls (.int x :: .int x :: st) h := runv_plain (x := (.dup, 1, 0, 0)) rfl rfl
theorem r0_145 {x : Nat} : runv 0 145 ls (.ref x :: st) h = runv 0 146 ls (.ref x :: .ref x :: st) h := runv_plain (x := (.dup, 1, 0, 0)) rfl rfl
theorem s0_146 {x : Nat} : runv 0 146 (some (.ref x) :: ls) st h = runv 0 147 (some (.ref x) :: ls) (.ref x :: st) h := runv_plain (x := (.aload_n 0, 1, 0, 0)) rfl rfl
theorem s0_147 {a : Nat} : runv 0 147 ls (.ref a :: st) h = vgf h a 0 0 fun v => runv 0 150 ls (v :: st) h := runv_get (show vcode 0 147 = some (.getfield 14, 3, 0, 0) from rfl)
theorem s0_150 {x : Nat} : runv 0 150 (some (.ref x) :: ls) st h = runv 0 151 (some (.ref x) :: ls) (.ref x :: st) h := runv_plain (x := (.aload_n 0, 1, 0, 0)) rfl rfl
theorem s0_151 {a : Nat} : runv 0 151 ls (.ref a :: st) h = vgf h a 0 2 fun v => runv 0 154 ls (v :: st) h := runv_get (show vcode 0 151 = some (.getfield 25, 3, 0, 2) from rfl)
theorem s0_154 {a : Nat} {p0 : Nat} {p1 : Nat} (h1 : st.length ≤ 4) : runv 0 154 ls (.ref p1 :: .ref p0 :: .ref a :: st) h = vbind (callv 109 [.ref a, .ref p0, .ref p1] h) fun v h' => runv 0 157 ls (vpush v st) h' := runv_call (show vcode 0 154 = some (.invokespecial 76, 3, 109, 3) from rfl) rfl (vcall_mk rfl rfl h1 (by decide) rfl rfl)
theorem s0_157 {a : Nat} {v : Value} : runv 0 157 ls (v :: .ref a :: st) h = vpf h a 0 10 v fun h1 => runv 0 160 ls st h1 := runv_put (show vcode 0 157 = some (.putfield 79, 3, 0, 10) from rfl)
theorem s0_160 : runv 0 160 ls [] h = some (none, h) := runv_ret (show vcode 0 160 = some (.return_, 1, 0, 0) from rfl) rfl rfl
theorem s23_0 {x : Nat} : runv 23 0 (some (.ref x) :: ls) st h = runv 23 1 (some (.ref x) :: ls) (.ref x :: st) h := runv_plain (x := (.aload_n 0, 1, 0, 0)) rfl rfl
theorem s23_1 {a : Nat} (h1 : st.length ≤ 4) : runv 23 1 ls (.ref a :: st) h = runv 23 4 ls st h := (runv_plain (x := (.invokespecial 1, 3, 1000, 0)) rfl rfl).trans (by simp only [vstep]; rw [if_pos ⟨trivial, h1⟩]; rfl)
theorem s23_4 {x : Nat} : runv 23 4 (some (.ref x) :: ls) st h = runv 23 5 (some (.ref x) :: ls) (.ref x :: st) h := runv_plain (x := (.aload_n 0, 1, 0, 0)) rfl rfl
theorem s23_5 : runv 23 5 ls st h = runv 23 8 ls (.int 640 :: st) h := runv_plain (x := (.sipush (640), 3, 0, 0)) rfl rfl
theorem s23_8 {x : Int32} : runv 23 8 ls (.int x :: st) h = if ¬ x < 0 ∧ x.toNatClampNeg ≤ 100000 then runv 23 10 ls (.ref h.length :: st) (h ++ [(100, List.replicate x.toNatClampNeg (.int 0))]) else none := (runv_plain (x := (.newarray .int, 2, 0, 0)) rfl rfl).trans (by simp only [vstep]; split <;> rfl)
theorem s23_10 {a : Nat} {v : Value} : runv 23 10 ls (v :: .ref a :: st) h = vpf h a 9 0 v fun h1 => runv 23 13 ls st h1 := runv_put (show vcode 23 10 = some (.putfield 7, 3, 9, 0) from rfl)
theorem s23_13 {x : Nat} : runv 23 13 (some (.ref x) :: ls) st h = runv 23 14 (some (.ref x) :: ls) (.ref x :: st) h := runv_plain (x := (.aload_n 0, 1, 0, 0)) rfl rfl
theorem s23_14 : runv 23 14 ls st h = runv 23 15 ls (.int 2 :: st) h := runv_plain (x := (.iconst 2, 1, 0, 0)) rfl rfl
theorem s23_15 {x : Int32} : runv 23 15 ls (.int x :: st) h = if ¬ x < 0 ∧ x.toNatClampNeg ≤ 100000 then runv 23 17 ls (.ref h.length :: st) (h ++ [(100, List.replicate x.toNatClampNeg (.int 0))]) else none := (runv_plain (x := (.newarray .int, 2, 0, 0)) rfl rfl).trans (by simp only [vstep]; split <;> rfl)
theorem s23_17 {a : Nat} {v : Value} : runv 23 17 ls (v :: .ref a :: st) h = vpf h a 9 2 v fun h1 => runv 23 20 ls st h1 := runv_put (show vcode 23 17 = some (.putfield 13, 3, 9, 2) from rfl)
theorem s23_20 {x : Nat} : runv 23 20 (some (.ref x) :: ls) st h = runv 23 21 (some (.ref x) :: ls) (.ref x :: st) h := runv_plain (x := (.aload_n 0, 1, 0, 0)) rfl rfl
theorem s23_21 : runv 23 21 ls st h = runv 23 23 ls (.int 57 :: st) h := runv_plain (x := (.bipush (57), 2, 0, 0)) rfl rfl
theorem s23_23 {x : Int32} : runv 23 23 ls (.int x :: st) h = if ¬ x < 0 ∧ x.toNatClampNeg ≤ 100000 then runv 23 25 ls (.ref h.length :: st) (h ++ [(100, List.replicate x.toNatClampNeg (.int 0))]) else none := (runv_plain (x := (.newarray .int, 2, 0, 0)) rfl rfl).trans (by simp only [vstep]; split <;> rfl)
theorem s23_25 {a : Nat} {v : Value} : runv 23 25 ls (v :: .ref a :: st) h = vpf h a 9 3 v fun h1 => runv 23 28 ls st h1 := runv_put (show vcode 23 25 = some (.putfield 16, 3, 9, 3) from rfl)
theorem s23_28 {x : Nat} : runv 23 28 (some (.ref x) :: ls) st h = runv 23 29 (some (.ref x) :: ls) (.ref x :: st) h := runv_plain (x := (.aload_n 0, 1, 0, 0)) rfl rfl
theorem s23_29 : runv 23 29 ls st h = runv 23 31 ls (.int 57 :: st) h := runv_plain (x := (.bipush (57), 2, 0, 0)) rfl rfl
theorem s23_31 {x : Int32} : runv 23 31 ls (.int x :: st) h = if ¬ x < 0 ∧ x.toNatClampNeg ≤ 100000 then runv 23 33 ls (.ref h.length :: st) (h ++ [(100, List.replicate x.toNatClampNeg (.int 0))]) else none := (runv_plain (x := (.newarray .int, 2, 0, 0)) rfl rfl).trans (by simp only [vstep]; split <;> rfl)
theorem s23_33 {a : Nat} {v : Value} : runv 23 33 ls (v :: .ref a :: st) h = vpf h a 9 4 v fun h1 => runv 23 36 ls st h1 := runv_put (show vcode 23 33 = some (.putfield 19, 3, 9, 4) from rfl)
theorem s23_36 {x : Nat} : runv 23 36 (some (.ref x) :: ls) st h = runv 23 37 (some (.ref x) :: ls) (.ref x :: st) h := runv_plain (x := (.aload_n 0, 1, 0, 0)) rfl rfl
theorem s23_37 : runv 23 37 ls st h = runv 23 40 ls (.int 1368 :: st) h := runv_plain (x := (.sipush (1368), 3, 0, 0)) rfl rfl
theorem s23_40 {x : Int32} : runv 23 40 ls (.int x :: st) h = if ¬ x < 0 ∧ x.toNatClampNeg ≤ 100000 then runv 23 42 ls (.ref h.length :: st) (h ++ [(100, List.replicate x.toNatClampNeg (.int 0))]) else none := (runv_plain (x := (.newarray .int, 2, 0, 0)) rfl rfl).trans (by simp only [vstep]; split <;> rfl)
theorem s23_42 {a : Nat} {v : Value} : runv 23 42 ls (v :: .ref a :: st) h = vpf h a 9 5 v fun h1 => runv 23 45 ls st h1 := runv_put (show vcode 23 42 = some (.putfield 22, 3, 9, 5) from rfl)
theorem s23_45 {x : Nat} : runv 23 45 (some (.ref x) :: ls) st h = runv 23 46 (some (.ref x) :: ls) (.ref x :: st) h := runv_plain (x := (.aload_n 0, 1, 0, 0)) rfl rfl
theorem s23_46 : runv 23 46 ls st h = runv 23 48 ls (.int 40 :: st) h := runv_plain (x := (.bipush (40), 2, 0, 0)) rfl rfl
theorem s23_48 {x : Int32} : runv 23 48 ls (.int x :: st) h = if ¬ x < 0 ∧ x.toNatClampNeg ≤ 100000 then runv 23 50 ls (.ref h.length :: st) (h ++ [(101, List.replicate x.toNatClampNeg (.int 0))]) else none := (runv_plain (x := (.newarray .boolean, 2, 0, 0)) rfl rfl).trans (by simp only [vstep]; split <;> rfl)
theorem s23_50 {a : Nat} {v : Value} : runv 23 50 ls (v :: .ref a :: st) h = vpf h a 9 6 v fun h1 => runv 23 53 ls st h1 := runv_put (show vcode 23 50 = some (.putfield 25, 3, 9, 6) from rfl)
theorem s23_53 {x : Nat} : runv 23 53 (some (.ref x) :: ls) st h = runv 23 54 (some (.ref x) :: ls) (.ref x :: st) h := runv_plain (x := (.aload_n 0, 1, 0, 0)) rfl rfl
theorem s23_54 : runv 23 54 ls st h = runv 23 55 ls (.int 4 :: st) h := runv_plain (x := (.iconst 4, 1, 0, 0)) rfl rfl
theorem s23_55 {x : Int32} : runv 23 55 ls (.int x :: st) h = if ¬ x < 0 ∧ x.toNatClampNeg ≤ 100000 then runv 23 57 ls (.ref h.length :: st) (h ++ [(100, List.replicate x.toNatClampNeg (.int 0))]) else none := (runv_plain (x := (.newarray .int, 2, 0, 0)) rfl rfl).trans (by simp only [vstep]; split <;> rfl)
theorem s23_57 {a : Nat} {v : Value} : runv 23 57 ls (v :: .ref a :: st) h = vpf h a 9 8 v fun h1 => runv 23 60 ls st h1 := runv_put (show vcode 23 57 = some (.putfield 29, 3, 9, 8) from rfl)
theorem s23_60 {x : Nat} : runv 23 60 (some (.ref x) :: ls) st h = runv 23 61 (some (.ref x) :: ls) (.ref x :: st) h := runv_plain (x := (.aload_n 0, 1, 0, 0)) rfl rfl
theorem s23_61 : runv 23 61 ls st h = runv 23 63 ls (.int 16 :: st) h := runv_plain (x := (.bipush (16), 2, 0, 0)) rfl rfl
theorem s23_63 {x : Int32} : runv 23 63 ls (.int x :: st) h = if ¬ x < 0 ∧ x.toNatClampNeg ≤ 100000 then runv 23 65 ls (.ref h.length :: st) (h ++ [(101, List.replicate x.toNatClampNeg (.int 0))]) else none := (runv_plain (x := (.newarray .boolean, 2, 0, 0)) rfl rfl).trans (by simp only [vstep]; split <;> rfl)
theorem s23_65 {a : Nat} {v : Value} : runv 23 65 ls (v :: .ref a :: st) h = vpf h a 9 9 v fun h1 => runv 23 68 ls st h1 := runv_put (show vcode 23 65 = some (.putfield 32, 3, 9, 9) from rfl)
theorem s23_68 {x : Nat} : runv 23 68 (some (.ref x) :: ls) st h = runv 23 69 (some (.ref x) :: ls) (.ref x :: st) h := runv_plain (x := (.aload_n 0, 1, 0, 0)) rfl rfl
theorem s23_69 : runv 23 69 ls st h = runv 23 71 ls (.int 8 :: st) h := runv_plain (x := (.bipush (8), 2, 0, 0)) rfl rfl
theorem s23_71 {x : Int32} : runv 23 71 ls (.int x :: st) h = if ¬ x < 0 ∧ x.toNatClampNeg ≤ 100000 then runv 23 73 ls (.ref h.length :: st) (h ++ [(100, List.replicate x.toNatClampNeg (.int 0))]) else none := (runv_plain (x := (.newarray .int, 2, 0, 0)) rfl rfl).trans (by simp only [vstep]; split <;> rfl)
theorem s23_73 {a : Nat} {v : Value} : runv 23 73 ls (v :: .ref a :: st) h = vpf h a 9 12 v fun h1 => runv 23 76 ls st h1 := runv_put (show vcode 23 73 = some (.putfield 35, 3, 9, 12) from rfl)
theorem s23_76 {x : Nat} : runv 23 76 (some (.ref x) :: ls) st h = runv 23 77 (some (.ref x) :: ls) (.ref x :: st) h := runv_plain (x := (.aload_n 0, 1, 0, 0)) rfl rfl
theorem s23_77 : runv 23 77 ls st h = runv 23 79 ls (.int 16 :: st) h := runv_plain (x := (.bipush (16), 2, 0, 0)) rfl rfl
theorem s23_79 {x : Int32} : runv 23 79 ls (.int x :: st) h = if ¬ x < 0 ∧ x.toNatClampNeg ≤ 100000 then runv 23 81 ls (.ref h.length :: st) (h ++ [(100, List.replicate x.toNatClampNeg (.int 0))]) else none := (runv_plain (x := (.newarray .int, 2, 0, 0)) rfl rfl).trans (by simp only [vstep]; split <;> rfl)
theorem s23_81 {a : Nat} {v : Value} : runv 23 81 ls (v :: .ref a :: st) h = vpf h a 9 14 v fun h1 => runv 23 84 ls st h1 := runv_put (show vcode 23 81 = some (.putfield 38, 3, 9, 14) from rfl)
theorem s23_84 {x : Nat} : runv 23 84 (some (.ref x) :: ls) st h = runv 23 85 (some (.ref x) :: ls) (.ref x :: st) h := runv_plain (x := (.aload_n 0, 1, 0, 0)) rfl rfl
theorem s23_85 : runv 23 85 ls st h = runv 23 87 ls (.int 16 :: st) h := runv_plain (x := (.bipush (16), 2, 0, 0)) rfl rfl
theorem s23_87 {x : Int32} : runv 23 87 ls (.int x :: st) h = if ¬ x < 0 ∧ x.toNatClampNeg ≤ 100000 then runv 23 89 ls (.ref h.length :: st) (h ++ [(100, List.replicate x.toNatClampNeg (.int 0))]) else none := (runv_plain (x := (.newarray .int, 2, 0, 0)) rfl rfl).trans (by simp only [vstep]; split <;> rfl)
theorem s23_89 {a : Nat} {v : Value} : runv 23 89 ls (v :: .ref a :: st) h = vpf h a 9 15 v fun h1 => runv 23 92 ls st h1 := runv_put (show vcode 23 89 = some (.putfield 41, 3, 9, 15) from rfl)
theorem s23_92 {x : Nat} : runv 23 92 (some (.ref x) :: ls) st h = runv 23 93 (some (.ref x) :: ls) (.ref x :: st) h := runv_plain (x := (.aload_n 0, 1, 0, 0)) rfl rfl
theorem s23_93 : runv 23 93 ls st h = runv 23 96 ls (.int 256 :: st) h := runv_plain (x := (.sipush (256), 3, 0, 0)) rfl rfl
theorem s23_96 {x : Int32} : runv 23 96 ls (.int x :: st) h = if ¬ x < 0 ∧ x.toNatClampNeg ≤ 100000 then runv 23 98 ls (.ref h.length :: st) (h ++ [(100, List.replicate x.toNatClampNeg (.int 0))]) else none := (runv_plain (x := (.newarray .int, 2, 0, 0)) rfl rfl).trans (by simp only [vstep]; split <;> rfl)
theorem s23_98 {a : Nat} {v : Value} : runv 23 98 ls (v :: .ref a :: st) h = vpf h a 9 17 v fun h1 => runv 23 101 ls st h1 := runv_put (show vcode 23 98 = some (.putfield 44, 3, 9, 17) from rfl)
theorem s23_101 {x : Nat} : runv 23 101 (some (.ref x) :: ls) st h = runv 23 102 (some (.ref x) :: ls) (.ref x :: st) h := runv_plain (x := (.aload_n 0, 1, 0, 0)) rfl rfl
theorem s23_102 : runv 23 102 ls st h = runv 23 104 ls (.int 16 :: st) h := runv_plain (x := (.bipush (16), 2, 0, 0)) rfl rfl
theorem s23_104 {x : Int32} : runv 23 104 ls (.int x :: st) h = if ¬ x < 0 ∧ x.toNatClampNeg ≤ 100000 then runv 23 106 ls (.ref h.length :: st) (h ++ [(100, List.replicate x.toNatClampNeg (.int 0))]) else none := (runv_plain (x := (.newarray .int, 2, 0, 0)) rfl rfl).trans (by simp only [vstep]; split <;> rfl)
theorem s23_106 {a : Nat} {v : Value} : runv 23 106 ls (v :: .ref a :: st) h = vpf h a 9 20 v fun h1 => runv 23 109 ls st h1 := runv_put (show vcode 23 106 = some (.putfield 47, 3, 9, 20) from rfl)
theorem s23_109 {x : Nat} : runv 23 109 (some (.ref x) :: ls) st h = runv 23 110 (some (.ref x) :: ls) (.ref x :: st) h := runv_plain (x := (.aload_n 0, 1, 0, 0)) rfl rfl
theorem s23_110 : runv 23 110 ls st h = runv 23 112 ls (.int 16 :: st) h := runv_plain (x := (.bipush (16), 2, 0, 0)) rfl rfl
theorem s23_112 {x : Int32} : runv 23 112 ls (.int x :: st) h = if ¬ x < 0 ∧ x.toNatClampNeg ≤ 100000 then runv 23 114 ls (.ref h.length :: st) (h ++ [(100, List.replicate x.toNatClampNeg (.int 0))]) else none := (runv_plain (x := (.newarray .int, 2, 0, 0)) rfl rfl).trans (by simp only [vstep]; split <;> rfl)
theorem s23_114 {a : Nat} {v : Value} : runv 23 114 ls (v :: .ref a :: st) h = vpf h a 9 21 v fun h1 => runv 23 117 ls st h1 := runv_put (show vcode 23 114 = some (.putfield 50, 3, 9, 21) from rfl)
theorem s23_117 {x : Nat} : runv 23 117 (some (.ref x) :: ls) st h = runv 23 118 (some (.ref x) :: ls) (.ref x :: st) h := runv_plain (x := (.aload_n 0, 1, 0, 0)) rfl rfl
theorem s23_118 : runv 23 118 ls st h = runv 23 120 ls (.int 16 :: st) h := runv_plain (x := (.bipush (16), 2, 0, 0)) rfl rfl
theorem s23_120 {x : Int32} : runv 23 120 ls (.int x :: st) h = if ¬ x < 0 ∧ x.toNatClampNeg ≤ 100000 then runv 23 122 ls (.ref h.length :: st) (h ++ [(100, List.replicate x.toNatClampNeg (.int 0))]) else none := (runv_plain (x := (.newarray .int, 2, 0, 0)) rfl rfl).trans (by simp only [vstep]; split <;> rfl)
theorem s23_122 {a : Nat} {v : Value} : runv 23 122 ls (v :: .ref a :: st) h = vpf h a 9 22 v fun h1 => runv 23 125 ls st h1 := runv_put (show vcode 23 122 = some (.putfield 53, 3, 9, 22) from rfl)
theorem s23_125 {x : Nat} : runv 23 125 (some (.ref x) :: ls) st h = runv 23 126 (some (.ref x) :: ls) (.ref x :: st) h := runv_plain (x := (.aload_n 0, 1, 0, 0)) rfl rfl
theorem s23_126 : runv 23 126 ls st h = runv 23 129 ls (.int 4096 :: st) h := runv_plain (x := (.sipush (4096), 3, 0, 0)) rfl rfl
theorem s23_129 {x : Int32} : runv 23 129 ls (.int x :: st) h = if ¬ x < 0 ∧ x.toNatClampNeg ≤ 100000 then runv 23 131 ls (.ref h.length :: st) (h ++ [(100, List.replicate x.toNatClampNeg (.int 0))]) else none := (runv_plain (x := (.newarray .int, 2, 0, 0)) rfl rfl).trans (by simp only [vstep]; split <;> rfl)
theorem s23_131 {a : Nat} {v : Value} : runv 23 131 ls (v :: .ref a :: st) h = vpf h a 9 23 v fun h1 => runv 23 134 ls st h1 := runv_put (show vcode 23 131 = some (.putfield 56, 3, 9, 23) from rfl)
theorem s23_134 {x : Nat} : runv 23 134 (some (.ref x) :: ls) st h = runv 23 135 (some (.ref x) :: ls) (.ref x :: st) h := runv_plain (x := (.aload_n 0, 1, 0, 0)) rfl rfl
theorem s23_135 : runv 23 135 ls st h = runv 23 137 ls (.int 16 :: st) h := runv_plain (x := (.bipush (16), 2, 0, 0)) rfl rfl
theorem s23_137 {x : Int32} : runv 23 137 ls (.int x :: st) h = if ¬ x < 0 ∧ x.toNatClampNeg ≤ 100000 then runv 23 139 ls (.ref h.length :: st) (h ++ [(101, List.replicate x.toNatClampNeg (.int 0))]) else none := (runv_plain (x := (.newarray .boolean, 2, 0, 0)) rfl rfl).trans (by simp only [vstep]; split <;> rfl)
theorem s23_139 {a : Nat} {v : Value} : runv 23 139 ls (v :: .ref a :: st) h = vpf h a 9 24 v fun h1 => runv 23 142 ls st h1 := runv_put (show vcode 23 139 = some (.putfield 59, 3, 9, 24) from rfl)
theorem s23_142 : runv 23 142 ls st h = runv 23 143 ls (.int 0 :: st) h := runv_plain (x := (.iconst 0, 1, 0, 0)) rfl rfl
theorem s23_143 {a0 a1 : Option Value} {x : Int32} : runv 23 143 (a0 :: a1 :: ls) (.int x :: st) h = runv 23 144 (a0 :: some (.int x) :: ls) st h := (runv_plain (x := (.istore_n 1, 1, 0, 0)) rfl rfl).trans (by simp only [vstep, List.length_cons, show ∀ n : Nat, 1 < n + 2 from fun n => by omega, if_true]; rfl)
theorem s23_144 {a0 : Option Value} {x : Int32} : runv 23 144 (a0 :: some (.int x) :: ls) st h = runv 23 145 (a0 :: some (.int x) :: ls) (.int x :: st) h := runv_plain (x := (.iload_n 1, 1, 0, 0)) rfl rfl
theorem s23_145 : runv 23 145 ls st h = runv 23 146 ls (.int 4 :: st) h := runv_plain (x := (.iconst 4, 1, 0, 0)) rfl rfl
theorem s23_146 {x y : Int32} : runv 23 146 ls (.int y :: .int x :: st) h = if y ≤ x then runv 23 162 ls st h else runv 23 149 ls st h := (runv_icmp (show vcode 23 146 = some (.if_icmp .ge (16), 3, 0, 0) from rfl) (by decide)).trans (by simp only [vcmp, decide_eq_true_eq]; rfl)
theorem s23_149 {x : Nat} : runv 23 149 (some (.ref x) :: ls) st h = runv 23 150 (some (.ref x) :: ls) (.ref x :: st) h := runv_plain (x := (.aload_n 0, 1, 0, 0)) rfl rfl
theorem s23_150 {a : Nat} : runv 23 150 ls (.ref a :: st) h = vgf h a 9 8 fun v => runv 23 153 ls (v :: st) h := runv_get (show vcode 23 150 = some (.getfield 29, 3, 9, 8) from rfl)
theorem s23_153 {a0 : Option Value} {x : Int32} : runv 23 153 (a0 :: some (.int x) :: ls) st h = runv 23 154 (a0 :: some (.int x) :: ls) (.int x :: st) h := runv_plain (x := (.iload_n 1, 1, 0, 0)) rfl rfl
theorem s23_154 : runv 23 154 ls st h = runv 23 155 ls (.int (-1) :: st) h := runv_plain (x := (.iconst (-1), 1, 0, 0)) rfl rfl
theorem s23_155 {a : Nat} {i v : Int32} : runv 23 155 ls (.int v :: .int i :: .ref a :: st) h = vst2 h a 100 i (.int v) fun h1 => runv 23 156 ls st h1 := runv_iast (show vcode 23 155 = some (.iastore, 1, 0, 0) from rfl)
theorem s23_156 {a0 : Option Value} {x : Int32} : runv 23 156 (a0 :: some (.int x) :: ls) st h = runv 23 159 (a0 :: some (.int (x + 1)) :: ls) st h := runv_plain (x := (.iinc 1 (1), 3, 0, 0)) rfl rfl
theorem s23_159 : runv 23 159 ls st h = runv 23 144 ls st h := runv_plain (x := (.goto (-15), 3, 0, 0)) rfl rfl
theorem s23_162 : runv 23 162 ls [] h = some (none, h) := runv_ret (show vcode 23 162 = some (.return_, 1, 0, 0) from rfl) rfl rfl
theorem s75_0 {x : Nat} : runv 75 0 (some (.ref x) :: ls) st h = runv 75 1 (some (.ref x) :: ls) (.ref x :: st) h := runv_plain (x := (.aload_n 0, 1, 0, 0)) rfl rfl
theorem s75_1 {a : Nat} (h1 : st.length ≤ 4) : runv 75 1 ls (.ref a :: st) h = runv 75 4 ls st h := (runv_plain (x := (.invokespecial 1, 3, 1000, 0)) rfl rfl).trans (by simp only [vstep]; rw [if_pos ⟨trivial, h1⟩]; rfl)
theorem s75_4 {x : Nat} : runv 75 4 (some (.ref x) :: ls) st h = runv 75 5 (some (.ref x) :: ls) (.ref x :: st) h := runv_plain (x := (.aload_n 0, 1, 0, 0)) rfl rfl
theorem s75_5 {a0 : Option Value} {x : Int32} : runv 75 5 (a0 :: some (.int x) :: ls) st h = runv 75 6 (a0 :: some (.int x) :: ls) (.int x :: st) h := runv_plain (x := (.iload_n 1, 1, 0, 0)) rfl rfl
theorem s75_6 {x : Int32} : runv 75 6 ls (.int x :: st) h = if ¬ x < 0 ∧ x.toNatClampNeg ≤ 100000 then runv 75 8 ls (.ref h.length :: st) (h ++ [(101, List.replicate x.toNatClampNeg (.int 0))]) else none := (runv_plain (x := (.newarray .boolean, 2, 0, 0)) rfl rfl).trans (by simp only [vstep]; split <;> rfl)
theorem s75_8 {a : Nat} {v : Value} : runv 75 8 ls (v :: .ref a :: st) h = vpf h a 5 0 v fun h1 => runv 75 11 ls st h1 := runv_put (show vcode 75 8 = some (.putfield 7, 3, 5, 0) from rfl)
theorem s75_11 {x : Nat} : runv 75 11 (some (.ref x) :: ls) st h = runv 75 12 (some (.ref x) :: ls) (.ref x :: st) h := runv_plain (x := (.aload_n 0, 1, 0, 0)) rfl rfl
theorem s75_12 {a0 : Option Value} {x : Int32} : runv 75 12 (a0 :: some (.int x) :: ls) st h = runv 75 13 (a0 :: some (.int x) :: ls) (.int x :: st) h := runv_plain (x := (.iload_n 1, 1, 0, 0)) rfl rfl
theorem s75_13 {x : Int32} : runv 75 13 ls (.int x :: st) h = if ¬ x < 0 ∧ x.toNatClampNeg ≤ 100000 then runv 75 15 ls (.ref h.length :: st) (h ++ [(100, List.replicate x.toNatClampNeg (.int 0))]) else none := (runv_plain (x := (.newarray .int, 2, 0, 0)) rfl rfl).trans (by simp only [vstep]; split <;> rfl)
theorem s75_15 {a : Nat} {v : Value} : runv 75 15 ls (v :: .ref a :: st) h = vpf h a 5 1 v fun h1 => runv 75 18 ls st h1 := runv_put (show vcode 75 15 = some (.putfield 13, 3, 5, 1) from rfl)
theorem s75_18 {x : Nat} : runv 75 18 (some (.ref x) :: ls) st h = runv 75 19 (some (.ref x) :: ls) (.ref x :: st) h := runv_plain (x := (.aload_n 0, 1, 0, 0)) rfl rfl
theorem s75_19 : runv 75 19 ls st h = runv 75 20 ls (.int 0 :: st) h := runv_plain (x := (.iconst 0, 1, 0, 0)) rfl rfl
theorem s75_20 {a : Nat} {v : Value} : runv 75 20 ls (v :: .ref a :: st) h = vpf h a 5 2 v fun h1 => runv 75 23 ls st h1 := runv_put (show vcode 75 20 = some (.putfield 17, 3, 5, 2) from rfl)
theorem s75_23 : runv 75 23 ls [] h = some (none, h) := runv_ret (show vcode 75 23 = some (.return_, 1, 0, 0) from rfl) rfl rfl
theorem s87_0 {x : Nat} : runv 87 0 (some (.ref x) :: ls) st h = runv 87 1 (some (.ref x) :: ls) (.ref x :: st) h := runv_plain (x := (.aload_n 0, 1, 0, 0)) rfl rfl
theorem s87_1 {a : Nat} (h1 : st.length ≤ 4) : runv 87 1 ls (.ref a :: st) h = runv 87 4 ls st h := (runv_plain (x := (.invokespecial 3, 3, 1000, 0)) rfl rfl).trans (by simp only [vstep]; rw [if_pos ⟨trivial, h1⟩]; rfl)
theorem s87_4 {x : Nat} : runv 87 4 (some (.ref x) :: ls) st h = runv 87 5 (some (.ref x) :: ls) (.ref x :: st) h := runv_plain (x := (.aload_n 0, 1, 0, 0)) rfl rfl
theorem s87_5 : runv 87 5 ls st h = runv 87 8 ls (.ref h.length :: st) (h ++ [(1, vdef 1)]) := runv_plain (x := (.new 9, 3, 1, 0)) rfl rfl
theorem s87_8 {x : Int32} : runv 87 8 ls (.int x :: st) h = runv 87 9 ls (.int x :: .int x :: st) h := runv_plain (x := (.dup, 1, 0, 0)) rfl rfl
theorem r87_8 {x : Nat} : runv 87 8 ls (.ref x :: st) h = runv 87 9 ls (.ref x :: .ref x :: st) h := runv_plain (x := (.dup, 1, 0, 0)) rfl rfl
theorem s87_9 : runv 87 9 ls st h = runv 87 12 ls (.int 255 :: st) h := runv_plain (x := (.sipush (255), 3, 0, 0)) rfl rfl
theorem s87_12 {a : Nat} {p0 : Int32} (h1 : st.length ≤ 4) : runv 87 12 ls (.int p0 :: .ref a :: st) h = vbind (callv 141 [.ref a, .int p0] h) fun v h' => runv 87 15 ls (vpush v st) h' := runv_call (show vcode 87 12 = some (.invokespecial 11, 3, 141, 2) from rfl) rfl (vcall_mk rfl rfl h1 (by decide) rfl rfl)
theorem s87_15 {a : Nat} {v : Value} : runv 87 15 ls (v :: .ref a :: st) h = vpf h a 7 0 v fun h1 => runv 87 18 ls st h1 := runv_put (show vcode 87 15 = some (.putfield 14, 3, 7, 0) from rfl)
theorem s87_18 {x : Nat} : runv 87 18 (some (.ref x) :: ls) st h = runv 87 19 (some (.ref x) :: ls) (.ref x :: st) h := runv_plain (x := (.aload_n 0, 1, 0, 0)) rfl rfl
theorem s87_19 : runv 87 19 ls st h = runv 87 22 ls (.ref h.length :: st) (h ++ [(3, vdef 3)]) := runv_plain (x := (.new 20, 3, 3, 0)) rfl rfl
theorem s87_22 {x : Int32} : runv 87 22 ls (.int x :: st) h = runv 87 23 ls (.int x :: .int x :: st) h := runv_plain (x := (.dup, 1, 0, 0)) rfl rfl
theorem r87_22 {x : Nat} : runv 87 22 ls (.ref x :: st) h = runv 87 23 ls (.ref x :: .ref x :: st) h := runv_plain (x := (.dup, 1, 0, 0)) rfl rfl
theorem s87_23 {a : Nat} (h1 : st.length ≤ 4) : runv 87 23 ls (.ref a :: st) h = vbind (callv 96 [.ref a] h) fun v h' => runv 87 26 ls (vpush v st) h' := runv_call (show vcode 87 23 = some (.invokespecial 22, 3, 96, 1) from rfl) rfl (vcall_mk rfl rfl h1 (by decide) rfl rfl)
theorem s87_26 {a : Nat} {v : Value} : runv 87 26 ls (v :: .ref a :: st) h = vpf h a 7 1 v fun h1 => runv 87 29 ls st h1 := runv_put (show vcode 87 26 = some (.putfield 23, 3, 7, 1) from rfl)
theorem s87_29 : runv 87 29 ls [] h = some (none, h) := runv_ret (show vcode 87 29 = some (.return_, 1, 0, 0) from rfl) rfl rfl
theorem s91_0 {x : Nat} : runv 91 0 (some (.ref x) :: ls) st h = runv 91 1 (some (.ref x) :: ls) (.ref x :: st) h := runv_plain (x := (.aload_n 0, 1, 0, 0)) rfl rfl
theorem s91_1 {a : Nat} (h1 : st.length ≤ 4) : runv 91 1 ls (.ref a :: st) h = runv 91 4 ls st h := (runv_plain (x := (.invokespecial 1, 3, 1000, 0)) rfl rfl).trans (by simp only [vstep]; rw [if_pos ⟨trivial, h1⟩]; rfl)
theorem s91_4 {x : Nat} : runv 91 4 (some (.ref x) :: ls) st h = runv 91 5 (some (.ref x) :: ls) (.ref x :: st) h := runv_plain (x := (.aload_n 0, 1, 0, 0)) rfl rfl
theorem s91_5 {a0 : Option Value} {x : Int32} : runv 91 5 (a0 :: some (.int x) :: ls) st h = runv 91 6 (a0 :: some (.int x) :: ls) (.int x :: st) h := runv_plain (x := (.iload_n 1, 1, 0, 0)) rfl rfl
theorem s91_6 {x : Int32} : runv 91 6 ls (.int x :: st) h = if ¬ x < 0 ∧ x.toNatClampNeg ≤ 100000 then runv 91 8 ls (.ref h.length :: st) (h ++ [(100, List.replicate x.toNatClampNeg (.int 0))]) else none := (runv_plain (x := (.newarray .int, 2, 0, 0)) rfl rfl).trans (by simp only [vstep]; split <;> rfl)
theorem s91_8 {a : Nat} {v : Value} : runv 91 8 ls (v :: .ref a :: st) h = vpf h a 2 0 v fun h1 => runv 91 11 ls st h1 := runv_put (show vcode 91 8 = some (.putfield 7, 3, 2, 0) from rfl)
theorem s91_11 {x : Nat} : runv 91 11 (some (.ref x) :: ls) st h = runv 91 12 (some (.ref x) :: ls) (.ref x :: st) h := runv_plain (x := (.aload_n 0, 1, 0, 0)) rfl rfl
theorem s91_12 : runv 91 12 ls st h = runv 91 13 ls (.int 0 :: st) h := runv_plain (x := (.iconst 0, 1, 0, 0)) rfl rfl
theorem s91_13 {a : Nat} {v : Value} : runv 91 13 ls (v :: .ref a :: st) h = vpf h a 2 1 v fun h1 => runv 91 16 ls st h1 := runv_put (show vcode 91 13 = some (.putfield 13, 3, 2, 1) from rfl)
theorem s91_16 : runv 91 16 ls [] h = some (none, h) := runv_ret (show vcode 91 16 = some (.return_, 1, 0, 0) from rfl) rfl rfl
theorem s96_0 {x : Nat} : runv 96 0 (some (.ref x) :: ls) st h = runv 96 1 (some (.ref x) :: ls) (.ref x :: st) h := runv_plain (x := (.aload_n 0, 1, 0, 0)) rfl rfl
theorem s96_1 {a : Nat} (h1 : st.length ≤ 4) : runv 96 1 ls (.ref a :: st) h = runv 96 4 ls st h := (runv_plain (x := (.invokespecial 3, 3, 1000, 0)) rfl rfl).trans (by simp only [vstep]; rw [if_pos ⟨trivial, h1⟩]; rfl)
theorem s96_4 {x : Nat} : runv 96 4 (some (.ref x) :: ls) st h = runv 96 5 (some (.ref x) :: ls) (.ref x :: st) h := runv_plain (x := (.aload_n 0, 1, 0, 0)) rfl rfl
theorem s96_5 : runv 96 5 ls st h = runv 96 8 ls (.ref h.length :: st) (h ++ [(1, vdef 1)]) := runv_plain (x := (.new 9, 3, 1, 0)) rfl rfl
theorem s96_8 {x : Int32} : runv 96 8 ls (.int x :: st) h = runv 96 9 ls (.int x :: .int x :: st) h := runv_plain (x := (.dup, 1, 0, 0)) rfl rfl
theorem r96_8 {x : Nat} : runv 96 8 ls (.ref x :: st) h = runv 96 9 ls (.ref x :: .ref x :: st) h := runv_plain (x := (.dup, 1, 0, 0)) rfl rfl
theorem s96_9 : runv 96 9 ls st h = runv 96 11 ls (.int 24 :: st) h := runv_plain (x := (.bipush (24), 2, 0, 0)) rfl rfl
theorem s96_11 {a : Nat} {p0 : Int32} (h1 : st.length ≤ 4) : runv 96 11 ls (.int p0 :: .ref a :: st) h = vbind (callv 141 [.ref a, .int p0] h) fun v h' => runv 96 14 ls (vpush v st) h' := runv_call (show vcode 96 11 = some (.invokespecial 11, 3, 141, 2) from rfl) rfl (vcall_mk rfl rfl h1 (by decide) rfl rfl)
theorem s96_14 {a : Nat} {v : Value} : runv 96 14 ls (v :: .ref a :: st) h = vpf h a 3 0 v fun h1 => runv 96 17 ls st h1 := runv_put (show vcode 96 14 = some (.putfield 14, 3, 3, 0) from rfl)
theorem s96_17 : runv 96 17 ls [] h = some (none, h) := runv_ret (show vcode 96 17 = some (.return_, 1, 0, 0) from rfl) rfl rfl
theorem s109_0 {x : Nat} : runv 109 0 (some (.ref x) :: ls) st h = runv 109 1 (some (.ref x) :: ls) (.ref x :: st) h := runv_plain (x := (.aload_n 0, 1, 0, 0)) rfl rfl
theorem s109_1 {a : Nat} (h1 : st.length ≤ 4) : runv 109 1 ls (.ref a :: st) h = runv 109 4 ls st h := (runv_plain (x := (.invokespecial 3, 3, 1000, 0)) rfl rfl).trans (by simp only [vstep]; rw [if_pos ⟨trivial, h1⟩]; rfl)
theorem s109_4 {x : Nat} : runv 109 4 (some (.ref x) :: ls) st h = runv 109 5 (some (.ref x) :: ls) (.ref x :: st) h := runv_plain (x := (.aload_n 0, 1, 0, 0)) rfl rfl
theorem s109_5 {a0 : Option Value} {x : Nat} : runv 109 5 (a0 :: some (.ref x) :: ls) st h = runv 109 6 (a0 :: some (.ref x) :: ls) (.ref x :: st) h := runv_plain (x := (.aload_n 1, 1, 0, 0)) rfl rfl
theorem n109_5 {a0 : Option Value}  : runv 109 5 (a0 :: some .null :: ls) st h = runv 109 6 (a0 :: some .null :: ls) (.null :: st) h := runv_plain (x := (.aload_n 1, 1, 0, 0)) rfl rfl
theorem s109_6 {a : Nat} {v : Value} : runv 109 6 ls (v :: .ref a :: st) h = vpf h a 8 0 v fun h1 => runv 109 9 ls st h1 := runv_put (show vcode 109 6 = some (.putfield 9, 3, 8, 0) from rfl)
theorem s109_9 {x : Nat} : runv 109 9 (some (.ref x) :: ls) st h = runv 109 10 (some (.ref x) :: ls) (.ref x :: st) h := runv_plain (x := (.aload_n 0, 1, 0, 0)) rfl rfl
theorem s109_10 {a0 a1 : Option Value} {x : Nat} : runv 109 10 (a0 :: a1 :: some (.ref x) :: ls) st h = runv 109 11 (a0 :: a1 :: some (.ref x) :: ls) (.ref x :: st) h := runv_plain (x := (.aload_n 2, 1, 0, 0)) rfl rfl
theorem n109_10 {a0 a1 : Option Value}  : runv 109 10 (a0 :: a1 :: some .null :: ls) st h = runv 109 11 (a0 :: a1 :: some .null :: ls) (.null :: st) h := runv_plain (x := (.aload_n 2, 1, 0, 0)) rfl rfl
theorem s109_11 {a : Nat} {v : Value} : runv 109 11 ls (v :: .ref a :: st) h = vpf h a 8 1 v fun h1 => runv 109 14 ls st h1 := runv_put (show vcode 109 11 = some (.putfield 15, 3, 8, 1) from rfl)
theorem s109_14 {x : Nat} : runv 109 14 (some (.ref x) :: ls) st h = runv 109 15 (some (.ref x) :: ls) (.ref x :: st) h := runv_plain (x := (.aload_n 0, 1, 0, 0)) rfl rfl
theorem s109_15 : runv 109 15 ls st h = runv 109 17 ls (.int 16 :: st) h := runv_plain (x := (.bipush (16), 2, 0, 0)) rfl rfl
theorem s109_17 {x : Int32} : runv 109 17 ls (.int x :: st) h = if ¬ x < 0 ∧ x.toNatClampNeg ≤ 100000 then runv 109 20 ls (.ref h.length :: st) (h ++ [(103, List.replicate x.toNatClampNeg (.null))]) else none := (runv_plain (x := (.anewarray 19, 3, 103, 0)) rfl rfl).trans (by simp only [vstep, Nat.reduceEqDiff, true_or, or_true, true_and]; split <;> rfl)
theorem s109_20 {a : Nat} {v : Value} : runv 109 20 ls (v :: .ref a :: st) h = vpf h a 8 2 v fun h1 => runv 109 23 ls st h1 := runv_put (show vcode 109 20 = some (.putfield 21, 3, 8, 2) from rfl)
theorem s109_23 : runv 109 23 ls st h = runv 109 24 ls (.int 0 :: st) h := runv_plain (x := (.iconst 0, 1, 0, 0)) rfl rfl
theorem s109_24 {a0 a1 a2 a3 : Option Value} {x : Int32} : runv 109 24 (a0 :: a1 :: a2 :: a3 :: ls) (.int x :: st) h = runv 109 25 (a0 :: a1 :: a2 :: some (.int x) :: ls) st h := (runv_plain (x := (.istore_n 3, 1, 0, 0)) rfl rfl).trans (by simp only [vstep, List.length_cons, show ∀ n : Nat, 3 < n + 4 from fun n => by omega, if_true]; rfl)
theorem s109_25 {a0 a1 a2 : Option Value} {x : Int32} : runv 109 25 (a0 :: a1 :: a2 :: some (.int x) :: ls) st h = runv 109 26 (a0 :: a1 :: a2 :: some (.int x) :: ls) (.int x :: st) h := runv_plain (x := (.iload_n 3, 1, 0, 0)) rfl rfl
theorem s109_26 : runv 109 26 ls st h = runv 109 28 ls (.int 16 :: st) h := runv_plain (x := (.bipush (16), 2, 0, 0)) rfl rfl
theorem s109_28 {x y : Int32} : runv 109 28 ls (.int y :: .int x :: st) h = if y ≤ x then runv 109 50 ls st h else runv 109 31 ls st h := (runv_icmp (show vcode 109 28 = some (.if_icmp .ge (22), 3, 0, 0) from rfl) (by decide)).trans (by simp only [vcmp, decide_eq_true_eq]; rfl)
theorem s109_31 {x : Nat} : runv 109 31 (some (.ref x) :: ls) st h = runv 109 32 (some (.ref x) :: ls) (.ref x :: st) h := runv_plain (x := (.aload_n 0, 1, 0, 0)) rfl rfl
theorem s109_32 {a : Nat} : runv 109 32 ls (.ref a :: st) h = vgf h a 8 2 fun v => runv 109 35 ls (v :: st) h := runv_get (show vcode 109 32 = some (.getfield 21, 3, 8, 2) from rfl)
theorem s109_35 {a0 a1 a2 : Option Value} {x : Int32} : runv 109 35 (a0 :: a1 :: a2 :: some (.int x) :: ls) st h = runv 109 36 (a0 :: a1 :: a2 :: some (.int x) :: ls) (.int x :: st) h := runv_plain (x := (.iload_n 3, 1, 0, 0)) rfl rfl
theorem s109_36 : runv 109 36 ls st h = runv 109 39 ls (.ref h.length :: st) (h ++ [(7, vdef 7)]) := runv_plain (x := (.new 19, 3, 7, 0)) rfl rfl
theorem s109_39 {x : Int32} : runv 109 39 ls (.int x :: st) h = runv 109 40 ls (.int x :: .int x :: st) h := runv_plain (x := (.dup, 1, 0, 0)) rfl rfl
theorem r109_39 {x : Nat} : runv 109 39 ls (.ref x :: st) h = runv 109 40 ls (.ref x :: .ref x :: st) h := runv_plain (x := (.dup, 1, 0, 0)) rfl rfl
theorem s109_40 {a : Nat} (h1 : st.length ≤ 4) : runv 109 40 ls (.ref a :: st) h = vbind (callv 87 [.ref a] h) fun v h' => runv 109 43 ls (vpush v st) h' := runv_call (show vcode 109 40 = some (.invokespecial 25, 3, 87, 1) from rfl) rfl (vcall_mk rfl rfl h1 (by decide) rfl rfl)
theorem s109_43 {v a t tv : Nat} {i : Int32} {l lv : List Value} (ha : h[a]? = some (t, l)) (hv : h[v]? = some (tv, lv)) (hc : (t = 102 ∨ t = 103) ∧ tv = vcomp t ∧ ¬ i < 0 ∧ i.toNatClampNeg < l.length) : runv 109 43 ls (.ref v :: .int i :: .ref a :: st) h = runv 109 44 ls st (h.set a (t, l.set i.toNatClampNeg (.ref v))) := (runv_plain (x := (.aastore, 1, 0, 0)) rfl rfl).trans (by simp only [vstep, ha, hv]; rw [if_pos hc]; rfl)
theorem s109_44 {a0 a1 a2 : Option Value} {x : Int32} : runv 109 44 (a0 :: a1 :: a2 :: some (.int x) :: ls) st h = runv 109 47 (a0 :: a1 :: a2 :: some (.int (x + 1)) :: ls) st h := runv_plain (x := (.iinc 3 (1), 3, 0, 0)) rfl rfl
theorem s109_47 : runv 109 47 ls st h = runv 109 25 ls st h := runv_plain (x := (.goto (-22), 3, 0, 0)) rfl rfl
theorem s109_50 {x : Nat} : runv 109 50 (some (.ref x) :: ls) st h = runv 109 51 (some (.ref x) :: ls) (.ref x :: st) h := runv_plain (x := (.aload_n 0, 1, 0, 0)) rfl rfl
theorem s109_51 : runv 109 51 ls st h = runv 109 52 ls (.int 0 :: st) h := runv_plain (x := (.iconst 0, 1, 0, 0)) rfl rfl
theorem s109_52 {a : Nat} {v : Value} : runv 109 52 ls (v :: .ref a :: st) h = vpf h a 8 3 v fun h1 => runv 109 55 ls st h1 := runv_put (show vcode 109 52 = some (.putfield 26, 3, 8, 3) from rfl)
theorem s109_55 {x : Nat} : runv 109 55 (some (.ref x) :: ls) st h = runv 109 56 (some (.ref x) :: ls) (.ref x :: st) h := runv_plain (x := (.aload_n 0, 1, 0, 0)) rfl rfl
theorem s109_56 : runv 109 56 ls st h = runv 109 57 ls (.int 0 :: st) h := runv_plain (x := (.iconst 0, 1, 0, 0)) rfl rfl
theorem s109_57 {a : Nat} {v : Value} : runv 109 57 ls (v :: .ref a :: st) h = vpf h a 8 4 v fun h1 => runv 109 60 ls st h1 := runv_put (show vcode 109 57 = some (.putfield 30, 3, 8, 4) from rfl)
theorem s109_60 {x : Nat} : runv 109 60 (some (.ref x) :: ls) st h = runv 109 61 (some (.ref x) :: ls) (.ref x :: st) h := runv_plain (x := (.aload_n 0, 1, 0, 0)) rfl rfl
theorem s109_61 : runv 109 61 ls st h = runv 109 62 ls (.int 0 :: st) h := runv_plain (x := (.iconst 0, 1, 0, 0)) rfl rfl
theorem s109_62 {a : Nat} {v : Value} : runv 109 62 ls (v :: .ref a :: st) h = vpf h a 8 5 v fun h1 => runv 109 65 ls st h1 := runv_put (show vcode 109 62 = some (.putfield 33, 3, 8, 5) from rfl)
theorem s109_65 : runv 109 65 ls [] h = some (none, h) := runv_ret (show vcode 109 65 = some (.return_, 1, 0, 0) from rfl) rfl rfl
theorem s131_0 {x : Nat} : runv 131 0 (some (.ref x) :: ls) st h = runv 131 1 (some (.ref x) :: ls) (.ref x :: st) h := runv_plain (x := (.aload_n 0, 1, 0, 0)) rfl rfl
theorem s131_1 {a : Nat} (h1 : st.length ≤ 4) : runv 131 1 ls (.ref a :: st) h = runv 131 4 ls st h := (runv_plain (x := (.invokespecial 3, 3, 1000, 0)) rfl rfl).trans (by simp only [vstep]; rw [if_pos ⟨trivial, h1⟩]; rfl)
theorem s131_4 {x : Nat} : runv 131 4 (some (.ref x) :: ls) st h = runv 131 5 (some (.ref x) :: ls) (.ref x :: st) h := runv_plain (x := (.aload_n 0, 1, 0, 0)) rfl rfl
theorem s131_5 {a0 : Option Value} {x : Nat} : runv 131 5 (a0 :: some (.ref x) :: ls) st h = runv 131 6 (a0 :: some (.ref x) :: ls) (.ref x :: st) h := runv_plain (x := (.aload_n 1, 1, 0, 0)) rfl rfl
theorem s131_6 {a : Nat} {v : Value} : runv 131 6 ls (v :: .ref a :: st) h = vpf h a 6 0 v fun h1 => runv 131 9 ls st h1 := runv_put (show vcode 131 6 = some (.putfield 9, 3, 6, 0) from rfl)
theorem s131_9 {x : Nat} : runv 131 9 (some (.ref x) :: ls) st h = runv 131 10 (some (.ref x) :: ls) (.ref x :: st) h := runv_plain (x := (.aload_n 0, 1, 0, 0)) rfl rfl
theorem s131_10 {a0 a1 : Option Value} {x : Nat} : runv 131 10 (a0 :: a1 :: some (.ref x) :: ls) st h = runv 131 11 (a0 :: a1 :: some (.ref x) :: ls) (.ref x :: st) h := runv_plain (x := (.aload_n 2, 1, 0, 0)) rfl rfl
theorem s131_11 {a : Nat} {v : Value} : runv 131 11 ls (v :: .ref a :: st) h = vpf h a 6 1 v fun h1 => runv 131 14 ls st h1 := runv_put (show vcode 131 11 = some (.putfield 15, 3, 6, 1) from rfl)
theorem s131_14 {x : Nat} : runv 131 14 (some (.ref x) :: ls) st h = runv 131 15 (some (.ref x) :: ls) (.ref x :: st) h := runv_plain (x := (.aload_n 0, 1, 0, 0)) rfl rfl
theorem s131_15 : runv 131 15 ls st h = runv 131 17 ls (.int 16 :: st) h := runv_plain (x := (.bipush (16), 2, 0, 0)) rfl rfl
theorem s131_17 {x : Int32} : runv 131 17 ls (.int x :: st) h = if ¬ x < 0 ∧ x.toNatClampNeg ≤ 100000 then runv 131 19 ls (.ref h.length :: st) (h ++ [(100, List.replicate x.toNatClampNeg (.int 0))]) else none := (runv_plain (x := (.newarray .int, 2, 0, 0)) rfl rfl).trans (by simp only [vstep]; split <;> rfl)
theorem s131_19 {a : Nat} {v : Value} : runv 131 19 ls (v :: .ref a :: st) h = vpf h a 6 2 v fun h1 => runv 131 22 ls st h1 := runv_put (show vcode 131 19 = some (.putfield 19, 3, 6, 2) from rfl)
theorem s131_22 {x : Nat} : runv 131 22 (some (.ref x) :: ls) st h = runv 131 23 (some (.ref x) :: ls) (.ref x :: st) h := runv_plain (x := (.aload_n 0, 1, 0, 0)) rfl rfl
theorem s131_23 : runv 131 23 ls st h = runv 131 25 ls (.int 16 :: st) h := runv_plain (x := (.bipush (16), 2, 0, 0)) rfl rfl
theorem s131_25 {x : Int32} : runv 131 25 ls (.int x :: st) h = if ¬ x < 0 ∧ x.toNatClampNeg ≤ 100000 then runv 131 27 ls (.ref h.length :: st) (h ++ [(100, List.replicate x.toNatClampNeg (.int 0))]) else none := (runv_plain (x := (.newarray .int, 2, 0, 0)) rfl rfl).trans (by simp only [vstep]; split <;> rfl)
theorem s131_27 {a : Nat} {v : Value} : runv 131 27 ls (v :: .ref a :: st) h = vpf h a 6 3 v fun h1 => runv 131 30 ls st h1 := runv_put (show vcode 131 27 = some (.putfield 23, 3, 6, 3) from rfl)
theorem s131_30 {x : Nat} : runv 131 30 (some (.ref x) :: ls) st h = runv 131 31 (some (.ref x) :: ls) (.ref x :: st) h := runv_plain (x := (.aload_n 0, 1, 0, 0)) rfl rfl
theorem s131_31 : runv 131 31 ls st h = runv 131 32 ls (.int 0 :: st) h := runv_plain (x := (.iconst 0, 1, 0, 0)) rfl rfl
theorem s131_32 {a : Nat} {v : Value} : runv 131 32 ls (v :: .ref a :: st) h = vpf h a 6 4 v fun h1 => runv 131 35 ls st h1 := runv_put (show vcode 131 32 = some (.putfield 26, 3, 6, 4) from rfl)
theorem s131_35 {x : Nat} : runv 131 35 (some (.ref x) :: ls) st h = runv 131 36 (some (.ref x) :: ls) (.ref x :: st) h := runv_plain (x := (.aload_n 0, 1, 0, 0)) rfl rfl
theorem s131_36 : runv 131 36 ls st h = runv 131 39 ls (.ref h.length :: st) (h ++ [(1, vdef 1)]) := runv_plain (x := (.new 30, 3, 1, 0)) rfl rfl
theorem s131_39 {x : Int32} : runv 131 39 ls (.int x :: st) h = runv 131 40 ls (.int x :: .int x :: st) h := runv_plain (x := (.dup, 1, 0, 0)) rfl rfl
theorem r131_39 {x : Nat} : runv 131 39 ls (.ref x :: st) h = runv 131 40 ls (.ref x :: .ref x :: st) h := runv_plain (x := (.dup, 1, 0, 0)) rfl rfl
theorem s131_40 : runv 131 40 ls st h = runv 131 42 ls (.int 64 :: st) h := runv_plain (x := (.bipush (64), 2, 0, 0)) rfl rfl
theorem s131_42 {a : Nat} {p0 : Int32} (h1 : st.length ≤ 4) : runv 131 42 ls (.int p0 :: .ref a :: st) h = vbind (callv 141 [.ref a, .int p0] h) fun v h' => runv 131 45 ls (vpush v st) h' := runv_call (show vcode 131 42 = some (.invokespecial 32, 3, 141, 2) from rfl) rfl (vcall_mk rfl rfl h1 (by decide) rfl rfl)
theorem s131_45 {a : Nat} {v : Value} : runv 131 45 ls (v :: .ref a :: st) h = vpf h a 6 5 v fun h1 => runv 131 48 ls st h1 := runv_put (show vcode 131 45 = some (.putfield 35, 3, 6, 5) from rfl)
theorem s131_48 {x : Nat} : runv 131 48 (some (.ref x) :: ls) st h = runv 131 49 (some (.ref x) :: ls) (.ref x :: st) h := runv_plain (x := (.aload_n 0, 1, 0, 0)) rfl rfl
theorem s131_49 : runv 131 49 ls st h = runv 131 52 ls (.ref h.length :: st) (h ++ [(1, vdef 1)]) := runv_plain (x := (.new 30, 3, 1, 0)) rfl rfl
theorem s131_52 {x : Int32} : runv 131 52 ls (.int x :: st) h = runv 131 53 ls (.int x :: .int x :: st) h := runv_plain (x := (.dup, 1, 0, 0)) rfl rfl
theorem r131_52 {x : Nat} : runv 131 52 ls (.ref x :: st) h = runv 131 53 ls (.ref x :: .ref x :: st) h := runv_plain (x := (.dup, 1, 0, 0)) rfl rfl
theorem s131_53 : runv 131 53 ls st h = runv 131 55 ls (.int 64 :: st) h := runv_plain (x := (.bipush (64), 2, 0, 0)) rfl rfl
theorem s131_55 {a : Nat} {p0 : Int32} (h1 : st.length ≤ 4) : runv 131 55 ls (.int p0 :: .ref a :: st) h = vbind (callv 141 [.ref a, .int p0] h) fun v h' => runv 131 58 ls (vpush v st) h' := runv_call (show vcode 131 55 = some (.invokespecial 32, 3, 141, 2) from rfl) rfl (vcall_mk rfl rfl h1 (by decide) rfl rfl)
theorem s131_58 {a : Nat} {v : Value} : runv 131 58 ls (v :: .ref a :: st) h = vpf h a 6 6 v fun h1 => runv 131 61 ls st h1 := runv_put (show vcode 131 58 = some (.putfield 38, 3, 6, 6) from rfl)
theorem s131_61 {x : Nat} : runv 131 61 (some (.ref x) :: ls) st h = runv 131 62 (some (.ref x) :: ls) (.ref x :: st) h := runv_plain (x := (.aload_n 0, 1, 0, 0)) rfl rfl
theorem s131_62 : runv 131 62 ls st h = runv 131 65 ls (.ref h.length :: st) (h ++ [(1, vdef 1)]) := runv_plain (x := (.new 30, 3, 1, 0)) rfl rfl
theorem s131_65 {x : Int32} : runv 131 65 ls (.int x :: st) h = runv 131 66 ls (.int x :: .int x :: st) h := runv_plain (x := (.dup, 1, 0, 0)) rfl rfl
theorem r131_65 {x : Nat} : runv 131 65 ls (.ref x :: st) h = runv 131 66 ls (.ref x :: .ref x :: st) h := runv_plain (x := (.dup, 1, 0, 0)) rfl rfl
theorem s131_66 : runv 131 66 ls st h = runv 131 68 ls (.int 64 :: st) h := runv_plain (x := (.bipush (64), 2, 0, 0)) rfl rfl
theorem s131_68 {a : Nat} {p0 : Int32} (h1 : st.length ≤ 4) : runv 131 68 ls (.int p0 :: .ref a :: st) h = vbind (callv 141 [.ref a, .int p0] h) fun v h' => runv 131 71 ls (vpush v st) h' := runv_call (show vcode 131 68 = some (.invokespecial 32, 3, 141, 2) from rfl) rfl (vcall_mk rfl rfl h1 (by decide) rfl rfl)
theorem s131_71 {a : Nat} {v : Value} : runv 131 71 ls (v :: .ref a :: st) h = vpf h a 6 7 v fun h1 => runv 131 74 ls st h1 := runv_put (show vcode 131 71 = some (.putfield 41, 3, 6, 7) from rfl)
theorem s131_74 : runv 131 74 ls [] h = some (none, h) := runv_ret (show vcode 131 74 = some (.return_, 1, 0, 0) from rfl) rfl rfl
theorem s141_0 {x : Nat} : runv 141 0 (some (.ref x) :: ls) st h = runv 141 1 (some (.ref x) :: ls) (.ref x :: st) h := runv_plain (x := (.aload_n 0, 1, 0, 0)) rfl rfl
theorem s141_1 {a : Nat} (h1 : st.length ≤ 4) : runv 141 1 ls (.ref a :: st) h = runv 141 4 ls st h := (runv_plain (x := (.invokespecial 1, 3, 1000, 0)) rfl rfl).trans (by simp only [vstep]; rw [if_pos ⟨trivial, h1⟩]; rfl)
theorem s141_4 {x : Nat} : runv 141 4 (some (.ref x) :: ls) st h = runv 141 5 (some (.ref x) :: ls) (.ref x :: st) h := runv_plain (x := (.aload_n 0, 1, 0, 0)) rfl rfl
theorem s141_5 {a0 : Option Value} {x : Int32} : runv 141 5 (a0 :: some (.int x) :: ls) st h = runv 141 6 (a0 :: some (.int x) :: ls) (.int x :: st) h := runv_plain (x := (.iload_n 1, 1, 0, 0)) rfl rfl
theorem s141_6 {x : Int32} : runv 141 6 ls (.int x :: st) h = if ¬ x < 0 ∧ x.toNatClampNeg ≤ 100000 then runv 141 8 ls (.ref h.length :: st) (h ++ [(100, List.replicate x.toNatClampNeg (.int 0))]) else none := (runv_plain (x := (.newarray .int, 2, 0, 0)) rfl rfl).trans (by simp only [vstep]; split <;> rfl)
theorem s141_8 {a : Nat} {v : Value} : runv 141 8 ls (v :: .ref a :: st) h = vpf h a 1 0 v fun h1 => runv 141 11 ls st h1 := runv_put (show vcode 141 8 = some (.putfield 7, 3, 1, 0) from rfl)
theorem s141_11 {x : Nat} : runv 141 11 (some (.ref x) :: ls) st h = runv 141 12 (some (.ref x) :: ls) (.ref x :: st) h := runv_plain (x := (.aload_n 0, 1, 0, 0)) rfl rfl
theorem s141_12 : runv 141 12 ls st h = runv 141 13 ls (.int 0 :: st) h := runv_plain (x := (.iconst 0, 1, 0, 0)) rfl rfl
theorem s141_13 {a : Nat} {v : Value} : runv 141 13 ls (v :: .ref a :: st) h = vpf h a 1 1 v fun h1 => runv 141 16 ls st h1 := runv_put (show vcode 141 13 = some (.putfield 13, 3, 1, 1) from rfl)
theorem s141_16 : runv 141 16 ls [] h = some (none, h) := runv_ret (show vcode 141 16 = some (.return_, 1, 0, 0) from rfl) rfl rfl
theorem s157_0 {x : Nat} : runv 157 0 (some (.ref x) :: ls) st h = runv 157 1 (some (.ref x) :: ls) (.ref x :: st) h := runv_plain (x := (.aload_n 0, 1, 0, 0)) rfl rfl
theorem s157_1 {a : Nat} (h1 : st.length ≤ 4) : runv 157 1 ls (.ref a :: st) h = runv 157 4 ls st h := (runv_plain (x := (.invokespecial 1, 3, 1000, 0)) rfl rfl).trans (by simp only [vstep]; rw [if_pos ⟨trivial, h1⟩]; rfl)
theorem s157_4 {x : Nat} : runv 157 4 (some (.ref x) :: ls) st h = runv 157 5 (some (.ref x) :: ls) (.ref x :: st) h := runv_plain (x := (.aload_n 0, 1, 0, 0)) rfl rfl
theorem s157_5 {a0 : Option Value} {x : Int32} : runv 157 5 (a0 :: some (.int x) :: ls) st h = runv 157 6 (a0 :: some (.int x) :: ls) (.int x :: st) h := runv_plain (x := (.iload_n 1, 1, 0, 0)) rfl rfl
theorem s157_6 {x : Int32} : runv 157 6 ls (.int x :: st) h = if ¬ x < 0 ∧ x.toNatClampNeg ≤ 100000 then runv 157 9 ls (.ref h.length :: st) (h ++ [(102, List.replicate x.toNatClampNeg (.null))]) else none := (runv_plain (x := (.anewarray 7, 3, 102, 0)) rfl rfl).trans (by simp only [vstep, Nat.reduceEqDiff, true_or, or_true, true_and]; split <;> rfl)
theorem s157_9 {a : Nat} {v : Value} : runv 157 9 ls (v :: .ref a :: st) h = vpf h a 4 0 v fun h1 => runv 157 12 ls st h1 := runv_put (show vcode 157 9 = some (.putfield 9, 3, 4, 0) from rfl)
theorem s157_12 : runv 157 12 ls st h = runv 157 13 ls (.int 0 :: st) h := runv_plain (x := (.iconst 0, 1, 0, 0)) rfl rfl
theorem s157_13 {a0 a1 a2 : Option Value} {x : Int32} : runv 157 13 (a0 :: a1 :: a2 :: ls) (.int x :: st) h = runv 157 14 (a0 :: a1 :: some (.int x) :: ls) st h := (runv_plain (x := (.istore_n 2, 1, 0, 0)) rfl rfl).trans (by simp only [vstep, List.length_cons, show ∀ n : Nat, 2 < n + 3 from fun n => by omega, if_true]; rfl)
theorem s157_14 {a0 a1 : Option Value} {x : Int32} : runv 157 14 (a0 :: a1 :: some (.int x) :: ls) st h = runv 157 15 (a0 :: a1 :: some (.int x) :: ls) (.int x :: st) h := runv_plain (x := (.iload_n 2, 1, 0, 0)) rfl rfl
theorem s157_15 {a0 : Option Value} {x : Int32} : runv 157 15 (a0 :: some (.int x) :: ls) st h = runv 157 16 (a0 :: some (.int x) :: ls) (.int x :: st) h := runv_plain (x := (.iload_n 1, 1, 0, 0)) rfl rfl
theorem s157_16 {x y : Int32} : runv 157 16 ls (.int y :: .int x :: st) h = if y ≤ x then runv 157 38 ls st h else runv 157 19 ls st h := (runv_icmp (show vcode 157 16 = some (.if_icmp .ge (22), 3, 0, 0) from rfl) (by decide)).trans (by simp only [vcmp, decide_eq_true_eq]; rfl)
theorem s157_19 {x : Nat} : runv 157 19 (some (.ref x) :: ls) st h = runv 157 20 (some (.ref x) :: ls) (.ref x :: st) h := runv_plain (x := (.aload_n 0, 1, 0, 0)) rfl rfl
theorem s157_20 {a : Nat} : runv 157 20 ls (.ref a :: st) h = vgf h a 4 0 fun v => runv 157 23 ls (v :: st) h := runv_get (show vcode 157 20 = some (.getfield 9, 3, 4, 0) from rfl)
theorem s157_23 {a0 a1 : Option Value} {x : Int32} : runv 157 23 (a0 :: a1 :: some (.int x) :: ls) st h = runv 157 24 (a0 :: a1 :: some (.int x) :: ls) (.int x :: st) h := runv_plain (x := (.iload_n 2, 1, 0, 0)) rfl rfl
theorem s157_24 : runv 157 24 ls st h = runv 157 27 ls (.ref h.length :: st) (h ++ [(3, vdef 3)]) := runv_plain (x := (.new 7, 3, 3, 0)) rfl rfl
theorem s157_27 {x : Int32} : runv 157 27 ls (.int x :: st) h = runv 157 28 ls (.int x :: .int x :: st) h := runv_plain (x := (.dup, 1, 0, 0)) rfl rfl
theorem r157_27 {x : Nat} : runv 157 27 ls (.ref x :: st) h = runv 157 28 ls (.ref x :: .ref x :: st) h := runv_plain (x := (.dup, 1, 0, 0)) rfl rfl
theorem s157_28 {a : Nat} (h1 : st.length ≤ 4) : runv 157 28 ls (.ref a :: st) h = vbind (callv 96 [.ref a] h) fun v h' => runv 157 31 ls (vpush v st) h' := runv_call (show vcode 157 28 = some (.invokespecial 15, 3, 96, 1) from rfl) rfl (vcall_mk rfl rfl h1 (by decide) rfl rfl)
theorem s157_31 {v a t tv : Nat} {i : Int32} {l lv : List Value} (ha : h[a]? = some (t, l)) (hv : h[v]? = some (tv, lv)) (hc : (t = 102 ∨ t = 103) ∧ tv = vcomp t ∧ ¬ i < 0 ∧ i.toNatClampNeg < l.length) : runv 157 31 ls (.ref v :: .int i :: .ref a :: st) h = runv 157 32 ls st (h.set a (t, l.set i.toNatClampNeg (.ref v))) := (runv_plain (x := (.aastore, 1, 0, 0)) rfl rfl).trans (by simp only [vstep, ha, hv]; rw [if_pos hc]; rfl)
theorem s157_32 {a0 a1 : Option Value} {x : Int32} : runv 157 32 (a0 :: a1 :: some (.int x) :: ls) st h = runv 157 35 (a0 :: a1 :: some (.int (x + 1)) :: ls) st h := runv_plain (x := (.iinc 2 (1), 3, 0, 0)) rfl rfl
theorem s157_35 : runv 157 35 ls st h = runv 157 14 ls st h := runv_plain (x := (.goto (-21), 3, 0, 0)) rfl rfl
theorem s157_38 {x : Nat} : runv 157 38 (some (.ref x) :: ls) st h = runv 157 39 (some (.ref x) :: ls) (.ref x :: st) h := runv_plain (x := (.aload_n 0, 1, 0, 0)) rfl rfl
theorem s157_39 : runv 157 39 ls st h = runv 157 40 ls (.int 0 :: st) h := runv_plain (x := (.iconst 0, 1, 0, 0)) rfl rfl
theorem s157_40 {a : Nat} {v : Value} : runv 157 40 ls (v :: .ref a :: st) h = vpf h a 4 1 v fun h1 => runv 157 43 ls st h1 := runv_put (show vcode 157 40 = some (.putfield 16, 3, 4, 1) from rfl)
theorem s157_43 : runv 157 43 ls [] h = some (none, h) := runv_ret (show vcode 157 43 = some (.return_, 1, 0, 0) from rfl) rfl rfl
set_option maxRecDepth 20000 in
theorem s166_0 : runv 166 0 ls st h = runv 166 3 ls (.ref h.length :: st) (h ++ [(0, vdef 0)]) := runv_plain (x := (.new 7, 3, 0, 0)) rfl rfl
set_option maxRecDepth 20000 in
theorem s166_8 : runv 166 8 ls st h = runv 166 11 ls (.ref h.length :: st) (h ++ [(9, vdef 9)]) := runv_plain (x := (.new 10, 3, 9, 0)) rfl rfl
end SROWS
theorem vfit_obj {t k a : Nat} {n : String} (h : vty t k = .object n) : vfit t k (.ref a) = true := by simp [vfit, h, narrow, fits]
theorem vfit_arr {t k a : Nat} {n : FieldType} (h : vty t k = .array n) : vfit t k (.ref a) = true := by simp [vfit, h, narrow, fits]
