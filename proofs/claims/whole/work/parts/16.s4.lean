/-! a row for each instruction (by program, wip/whole/gen2.py) -/
section SROWS
variable {ls : vL} {st : List Value} {h : vH}
theorem s24_0 {x : Int32} : runv 24 0 (some (.int x) :: ls) st h = runv 24 1 (some (.int x) :: ls) (.int x :: st) h := runv_plain (x := (.iload_n 0, 1, 0, 0)) rfl rfl
theorem s24_1 {a0 : Option Value} {x : Int32} : runv 24 1 (a0 :: some (.int x) :: ls) st h = runv 24 2 (a0 :: some (.int x) :: ls) (.int x :: st) h := runv_plain (x := (.iload_n 1, 1, 0, 0)) rfl rfl
theorem s24_2 {x y : Int32} : runv 24 2 ls (.int y :: .int x :: st) h = if x < y then runv 24 14 ls st h else runv 24 5 ls st h := (runv_icmp (show vcode 24 2 = some (.if_icmp .lt (12), 3, 0, 0) from rfl) (by decide)).trans (by simp only [vcmp, decide_eq_true_eq]; rfl)
theorem s24_5 {x : Int32} : runv 24 5 (some (.int x) :: ls) st h = runv 24 6 (some (.int x) :: ls) (.int x :: st) h := runv_plain (x := (.iload_n 0, 1, 0, 0)) rfl rfl
theorem s24_6 {a0 a1 : Option Value} {x : Int32} : runv 24 6 (a0 :: a1 :: some (.int x) :: ls) st h = runv 24 7 (a0 :: a1 :: some (.int x) :: ls) (.int x :: st) h := runv_plain (x := (.iload_n 2, 1, 0, 0)) rfl rfl
theorem s24_7 {x y : Int32} : runv 24 7 ls (.int y :: .int x :: st) h = if y < x then runv 24 14 ls st h else runv 24 10 ls st h := (runv_icmp (show vcode 24 7 = some (.if_icmp .gt (7), 3, 0, 0) from rfl) (by decide)).trans (by simp only [vcmp, decide_eq_true_eq]; rfl)
theorem s24_10 : runv 24 10 ls st h = runv 24 11 ls (.int 1 :: st) h := runv_plain (x := (.iconst 1, 1, 0, 0)) rfl rfl
theorem s24_11 : runv 24 11 ls st h = runv 24 15 ls st h := runv_plain (x := (.goto (4), 3, 0, 0)) rfl rfl
theorem s24_14 : runv 24 14 ls st h = runv 24 15 ls (.int 0 :: st) h := runv_plain (x := (.iconst 0, 1, 0, 0)) rfl rfl
theorem s24_15 {v : Int32} (hv : v &&& 1 = v) : runv 24 15 ls [.int v] h = some (some (.int v), h) := runv_ret (show vcode 24 15 = some (.ireturn, 1, 0, 0) from rfl) rfl (by simp only [vretv, show vret 24 = some .boolean from rfl, if_pos hv])
theorem s25_0 {x : Int32} : runv 25 0 (some (.int x) :: ls) st h = runv 25 1 (some (.int x) :: ls) (.int x :: st) h := runv_plain (x := (.iload_n 0, 1, 0, 0)) rfl rfl
theorem s25_1 : runv 25 1 ls st h = runv 25 4 ls (.int 257 :: st) h := runv_plain (x := (.sipush (257), 3, 0, 0)) rfl rfl
theorem s25_4 {x y : Int32} : runv 25 4 ls (.int y :: .int x :: st) h = runv 25 5 ls (.int (x * y) :: st) h := runv_plain (x := (.imul, 1, 0, 0)) rfl rfl
theorem s25_5 {a0 : Option Value} {x : Int32} : runv 25 5 (a0 :: some (.int x) :: ls) st h = runv 25 6 (a0 :: some (.int x) :: ls) (.int x :: st) h := runv_plain (x := (.iload_n 1, 1, 0, 0)) rfl rfl
theorem s25_6 {x y : Int32} : runv 25 6 ls (.int y :: .int x :: st) h = runv 25 7 ls (.int (x + y) :: st) h := runv_plain (x := (.iadd, 1, 0, 0)) rfl rfl
theorem s25_7 : runv 25 7 ls st h = runv 25 9 ls (.int 65521 :: st) h := runv_plain (x := (.ldc 62, 2, 65521, 0)) rfl rfl
theorem s25_9 {x y : Int32} (hy : ¬ y = 0) : runv 25 9 ls (.int y :: .int x :: st) h = runv 25 10 ls (.int (x - x / y * y) :: st) h := runv_rem (show vcode 25 9 = some (.irem, 1, 0, 0) from rfl) hy
theorem s25_10 {v : Int32} : runv 25 10 ls [.int v] h = some (some (.int v), h) := runv_ret (show vcode 25 10 = some (.ireturn, 1, 0, 0) from rfl) rfl rfl
theorem s26_0 {a0 a1 : Option Value} {x : Int32} : runv 26 0 (a0 :: a1 :: some (.int x) :: ls) st h = runv 26 1 (a0 :: a1 :: some (.int x) :: ls) (.int x :: st) h := runv_plain (x := (.iload_n 2, 1, 0, 0)) rfl rfl
theorem s26_1 : runv 26 1 ls st h = runv 26 2 ls (.int 1 :: st) h := runv_plain (x := (.iconst 1, 1, 0, 0)) rfl rfl
theorem s26_2 : runv 26 2 ls st h = runv 26 3 ls (.int 4 :: st) h := runv_plain (x := (.iconst 4, 1, 0, 0)) rfl rfl
theorem s26_3 {p0 : Int32} {p1 : Int32} {p2 : Int32} (h1 : st.length ≤ 4) : runv 26 3 ls (.int p2 :: .int p1 :: .int p0 :: st) h = vbind (callv 24 [.int p0, .int p1, .int p2] h) fun v h' => runv 26 6 ls (vpush v st) h' := runv_call (show vcode 26 3 = some (.invokestatic 63, 3, 24, 3) from rfl) rfl (vcall_mk rfl rfl h1 (by decide) rfl rfl)
theorem s26_6 {x : Int32} : runv 26 6 ls (.int x :: st) h = if x = 0 then runv 26 21 ls st h else runv 26 9 ls st h := (runv_if (show vcode 26 6 = some (.ifCond .eq (15), 3, 0, 0) from rfl) (by decide)).trans (by simp only [vcmp, decide_eq_true_eq]; rfl)
theorem s26_9 {x : Nat} : runv 26 9 (some (.ref x) :: ls) st h = runv 26 10 (some (.ref x) :: ls) (.ref x :: st) h := runv_plain (x := (.aload_n 0, 1, 0, 0)) rfl rfl
theorem s26_10 {a : Nat} : runv 26 10 ls (.ref a :: st) h = vgf h a 9 1 fun v => runv 26 13 ls (v :: st) h := runv_get (show vcode 26 10 = some (.getfield 67, 3, 9, 1) from rfl)
theorem s26_13 {a0 a1 : Option Value} {x : Int32} : runv 26 13 (a0 :: a1 :: some (.int x) :: ls) st h = runv 26 14 (a0 :: a1 :: some (.int x) :: ls) (.int x :: st) h := runv_plain (x := (.iload_n 2, 1, 0, 0)) rfl rfl
theorem s26_14 {x y : Int32} : runv 26 14 ls (.int y :: .int x :: st) h = runv 26 15 ls (.int (x + y) :: st) h := runv_plain (x := (.iadd, 1, 0, 0)) rfl rfl
theorem s26_15 : runv 26 15 ls st h = runv 26 18 ls (.int 500 :: st) h := runv_plain (x := (.sipush (500), 3, 0, 0)) rfl rfl
theorem s26_18 {x y : Int32} : runv 26 18 ls (.int y :: .int x :: st) h = if x ≤ y then runv 26 23 ls st h else runv 26 21 ls st h := (runv_icmp (show vcode 26 18 = some (.if_icmp .le (5), 3, 0, 0) from rfl) (by decide)).trans (by simp only [vcmp, decide_eq_true_eq]; rfl)
theorem s26_21 : runv 26 21 ls st h = runv 26 22 ls (.int 0 :: st) h := runv_plain (x := (.iconst 0, 1, 0, 0)) rfl rfl
theorem s26_22 {v : Int32} (hv : v &&& 1 = v) : runv 26 22 ls [.int v] h = some (some (.int v), h) := runv_ret (show vcode 26 22 = some (.ireturn, 1, 0, 0) from rfl) rfl (by simp only [vretv, show vret 26 = some .boolean from rfl, if_pos hv])
theorem s26_23 {a0 a1 : Option Value} {x : Int32} : runv 26 23 (a0 :: a1 :: some (.int x) :: ls) st h = runv 26 24 (a0 :: a1 :: some (.int x) :: ls) (.int x :: st) h := runv_plain (x := (.iload_n 2, 1, 0, 0)) rfl rfl
theorem s26_24 : runv 26 24 ls st h = runv 26 25 ls (.int 1 :: st) h := runv_plain (x := (.iconst 1, 1, 0, 0)) rfl rfl
theorem s26_25 {x y : Int32} : runv 26 25 ls (.int y :: .int x :: st) h = runv 26 26 ls (.int (x - y) :: st) h := runv_plain (x := (.isub, 1, 0, 0)) rfl rfl
theorem s26_26 {a0 a1 a2 a3 : Option Value} {x : Int32} : runv 26 26 (a0 :: a1 :: a2 :: a3 :: ls) (.int x :: st) h = runv 26 27 (a0 :: a1 :: a2 :: some (.int x) :: ls) st h := (runv_plain (x := (.istore_n 3, 1, 0, 0)) rfl rfl).trans (by simp only [vstep, List.length_cons, show ∀ n : Nat, 3 < n + 4 from fun n => by omega, if_true]; rfl)
theorem s26_27 {a0 a1 a2 : Option Value} {x : Int32} : runv 26 27 (a0 :: a1 :: a2 :: some (.int x) :: ls) st h = runv 26 28 (a0 :: a1 :: a2 :: some (.int x) :: ls) (.int x :: st) h := runv_plain (x := (.iload_n 3, 1, 0, 0)) rfl rfl
theorem s26_28 {x : Int32} : runv 26 28 ls (.int x :: st) h = if x < 0 then runv 26 66 ls st h else runv 26 31 ls st h := (runv_if (show vcode 26 28 = some (.ifCond .lt (38), 3, 0, 0) from rfl) (by decide)).trans (by simp only [vcmp, decide_eq_true_eq]; rfl)
theorem s26_31 {x : Nat} : runv 26 31 (some (.ref x) :: ls) st h = runv 26 32 (some (.ref x) :: ls) (.ref x :: st) h := runv_plain (x := (.aload_n 0, 1, 0, 0)) rfl rfl
theorem s26_32 {a : Nat} : runv 26 32 ls (.ref a :: st) h = vgf h a 9 0 fun v => runv 26 35 ls (v :: st) h := runv_get (show vcode 26 32 = some (.getfield 7, 3, 9, 0) from rfl)
theorem s26_35 {x : Nat} : runv 26 35 (some (.ref x) :: ls) st h = runv 26 36 (some (.ref x) :: ls) (.ref x :: st) h := runv_plain (x := (.aload_n 0, 1, 0, 0)) rfl rfl
theorem s26_36 {a : Nat} : runv 26 36 ls (.ref a :: st) h = vgf h a 9 1 fun v => runv 26 39 ls (v :: st) h := runv_get (show vcode 26 36 = some (.getfield 67, 3, 9, 1) from rfl)
theorem s26_39 {a0 : Option Value} {x : Int32} : runv 26 39 (a0 :: some (.int x) :: ls) st h = runv 26 40 (a0 :: some (.int x) :: ls) (.int x :: st) h := runv_plain (x := (.iload_n 1, 1, 0, 0)) rfl rfl
theorem s26_40 : runv 26 40 ls st h = runv 26 42 ls (.int 8 :: st) h := runv_plain (x := (.bipush (8), 2, 0, 0)) rfl rfl
theorem s26_42 {a0 a1 a2 : Option Value} {x : Int32} : runv 26 42 (a0 :: a1 :: a2 :: some (.int x) :: ls) st h = runv 26 43 (a0 :: a1 :: a2 :: some (.int x) :: ls) (.int x :: st) h := runv_plain (x := (.iload_n 3, 1, 0, 0)) rfl rfl
theorem s26_43 {x y : Int32} : runv 26 43 ls (.int y :: .int x :: st) h = runv 26 44 ls (.int (x * y) :: st) h := runv_plain (x := (.imul, 1, 0, 0)) rfl rfl
theorem s26_44 {x y : Int32} : runv 26 44 ls (.int y :: .int x :: st) h = runv 26 45 ls (.int (x >>> (y &&& 31)) :: st) h := runv_plain (x := (.ishr, 1, 0, 0)) rfl rfl
theorem s26_45 : runv 26 45 ls st h = runv 26 48 ls (.int 255 :: st) h := runv_plain (x := (.sipush (255), 3, 0, 0)) rfl rfl
theorem s26_48 {x y : Int32} : runv 26 48 ls (.int y :: .int x :: st) h = runv 26 49 ls (.int (x &&& y) :: st) h := runv_plain (x := (.iand, 1, 0, 0)) rfl rfl
theorem s26_49 {a : Nat} {i v : Int32} : runv 26 49 ls (.int v :: .int i :: .ref a :: st) h = vst2 h a 100 i (.int v) fun h1 => runv 26 50 ls st h1 := runv_iast (show vcode 26 49 = some (.iastore, 1, 0, 0) from rfl)
theorem s26_50 {x : Nat} : runv 26 50 (some (.ref x) :: ls) st h = runv 26 51 (some (.ref x) :: ls) (.ref x :: st) h := runv_plain (x := (.aload_n 0, 1, 0, 0)) rfl rfl
theorem s26_51 {x : Nat} : runv 26 51 (some (.ref x) :: ls) st h = runv 26 52 (some (.ref x) :: ls) (.ref x :: st) h := runv_plain (x := (.aload_n 0, 1, 0, 0)) rfl rfl
theorem s26_52 {a : Nat} : runv 26 52 ls (.ref a :: st) h = vgf h a 9 1 fun v => runv 26 55 ls (v :: st) h := runv_get (show vcode 26 52 = some (.getfield 67, 3, 9, 1) from rfl)
theorem s26_55 : runv 26 55 ls st h = runv 26 56 ls (.int 1 :: st) h := runv_plain (x := (.iconst 1, 1, 0, 0)) rfl rfl
theorem s26_56 {x y : Int32} : runv 26 56 ls (.int y :: .int x :: st) h = runv 26 57 ls (.int (x + y) :: st) h := runv_plain (x := (.iadd, 1, 0, 0)) rfl rfl
theorem s26_57 {a : Nat} {v : Value} : runv 26 57 ls (v :: .ref a :: st) h = vpf h a 9 1 v fun h1 => runv 26 60 ls st h1 := runv_put (show vcode 26 57 = some (.putfield 67, 3, 9, 1) from rfl)
theorem s26_60 {a0 a1 a2 : Option Value} {x : Int32} : runv 26 60 (a0 :: a1 :: a2 :: some (.int x) :: ls) st h = runv 26 63 (a0 :: a1 :: a2 :: some (.int (x + (-1))) :: ls) st h := by
  have e := runv_plain (ls := (a0 :: a1 :: a2 :: some (.int x) :: ls)) (st := st) (h := h) (show vcode 26 60 = some (.iinc 3 (-1), 3, 0, 0) from rfl) rfl
  have e2 : Int32.ofInt (-1) = -1 := by decide +kernel
  simp only [vstep, vld, vst] at e
  rw [e2] at e
  exact e
theorem s26_63 : runv 26 63 ls st h = runv 26 27 ls st h := runv_plain (x := (.goto (-36), 3, 0, 0)) rfl rfl
theorem s26_66 : runv 26 66 ls st h = runv 26 67 ls (.int 1 :: st) h := runv_plain (x := (.iconst 1, 1, 0, 0)) rfl rfl
theorem s26_67 {v : Int32} (hv : v &&& 1 = v) : runv 26 67 ls [.int v] h = some (some (.int v), h) := runv_ret (show vcode 26 67 = some (.ireturn, 1, 0, 0) from rfl) rfl (by simp only [vretv, show vret 26 = some .boolean from rfl, if_pos hv])
theorem s27_0 {a0 : Option Value} {x : Int32} : runv 27 0 (a0 :: some (.int x) :: ls) st h = runv 27 1 (a0 :: some (.int x) :: ls) (.int x :: st) h := runv_plain (x := (.iload_n 1, 1, 0, 0)) rfl rfl
theorem s27_1 : runv 27 1 ls st h = runv 27 2 ls (.int 0 :: st) h := runv_plain (x := (.iconst 0, 1, 0, 0)) rfl rfl
theorem s27_2 {x : Nat} : runv 27 2 (some (.ref x) :: ls) st h = runv 27 3 (some (.ref x) :: ls) (.ref x :: st) h := runv_plain (x := (.aload_n 0, 1, 0, 0)) rfl rfl
theorem s27_3 {a : Nat} : runv 27 3 ls (.ref a :: st) h = vgf h a 9 1 fun v => runv 27 6 ls (v :: st) h := runv_get (show vcode 27 3 = some (.getfield 67, 3, 9, 1) from rfl)
theorem s27_6 : runv 27 6 ls st h = runv 27 7 ls (.int 1 :: st) h := runv_plain (x := (.iconst 1, 1, 0, 0)) rfl rfl
theorem s27_7 {x y : Int32} : runv 27 7 ls (.int y :: .int x :: st) h = runv 27 8 ls (.int (x - y) :: st) h := runv_plain (x := (.isub, 1, 0, 0)) rfl rfl
theorem s27_8 {p0 : Int32} {p1 : Int32} {p2 : Int32} (h1 : st.length ≤ 4) : runv 27 8 ls (.int p2 :: .int p1 :: .int p0 :: st) h = vbind (callv 24 [.int p0, .int p1, .int p2] h) fun v h' => runv 27 11 ls (vpush v st) h' := runv_call (show vcode 27 8 = some (.invokestatic 63, 3, 24, 3) from rfl) rfl (vcall_mk rfl rfl h1 (by decide) rfl rfl)
theorem s27_11 {x : Int32} : runv 27 11 ls (.int x :: st) h = if x = 0 then runv 27 25 ls st h else runv 27 14 ls st h := (runv_if (show vcode 27 11 = some (.ifCond .eq (14), 3, 0, 0) from rfl) (by decide)).trans (by simp only [vcmp, decide_eq_true_eq]; rfl)
theorem s27_14 {a0 a1 : Option Value} {x : Int32} : runv 27 14 (a0 :: a1 :: some (.int x) :: ls) st h = runv 27 15 (a0 :: a1 :: some (.int x) :: ls) (.int x :: st) h := runv_plain (x := (.iload_n 2, 1, 0, 0)) rfl rfl
theorem s27_15 : runv 27 15 ls st h = runv 27 16 ls (.int 0 :: st) h := runv_plain (x := (.iconst 0, 1, 0, 0)) rfl rfl
theorem s27_16 : runv 27 16 ls st h = runv 27 19 ls (.int 255 :: st) h := runv_plain (x := (.sipush (255), 3, 0, 0)) rfl rfl
theorem s27_19 {p0 : Int32} {p1 : Int32} {p2 : Int32} (h1 : st.length ≤ 4) : runv 27 19 ls (.int p2 :: .int p1 :: .int p0 :: st) h = vbind (callv 24 [.int p0, .int p1, .int p2] h) fun v h' => runv 27 22 ls (vpush v st) h' := runv_call (show vcode 27 19 = some (.invokestatic 63, 3, 24, 3) from rfl) rfl (vcall_mk rfl rfl h1 (by decide) rfl rfl)
theorem s27_22 {x : Int32} : runv 27 22 ls (.int x :: st) h = if x = 0 then runv 27 25 ls st h else runv 27 27 ls st h := (runv_if (show vcode 27 22 = some (.ifCond .ne (5), 3, 0, 0) from rfl) (by decide)).trans (by simp only [vcmp, decide_eq_true_eq, ite_not]; rfl)
theorem s27_25 : runv 27 25 ls st h = runv 27 26 ls (.int 0 :: st) h := runv_plain (x := (.iconst 0, 1, 0, 0)) rfl rfl
theorem s27_26 {v : Int32} (hv : v &&& 1 = v) : runv 27 26 ls [.int v] h = some (some (.int v), h) := runv_ret (show vcode 27 26 = some (.ireturn, 1, 0, 0) from rfl) rfl (by simp only [vretv, show vret 27 = some .boolean from rfl, if_pos hv])
theorem s27_27 {x : Nat} : runv 27 27 (some (.ref x) :: ls) st h = runv 27 28 (some (.ref x) :: ls) (.ref x :: st) h := runv_plain (x := (.aload_n 0, 1, 0, 0)) rfl rfl
theorem s27_28 {a : Nat} : runv 27 28 ls (.ref a :: st) h = vgf h a 9 0 fun v => runv 27 31 ls (v :: st) h := runv_get (show vcode 27 28 = some (.getfield 7, 3, 9, 0) from rfl)
theorem s27_31 {a0 : Option Value} {x : Int32} : runv 27 31 (a0 :: some (.int x) :: ls) st h = runv 27 32 (a0 :: some (.int x) :: ls) (.int x :: st) h := runv_plain (x := (.iload_n 1, 1, 0, 0)) rfl rfl
theorem s27_32 {a0 a1 : Option Value} {x : Int32} : runv 27 32 (a0 :: a1 :: some (.int x) :: ls) st h = runv 27 33 (a0 :: a1 :: some (.int x) :: ls) (.int x :: st) h := runv_plain (x := (.iload_n 2, 1, 0, 0)) rfl rfl
theorem s27_33 {a : Nat} {i v : Int32} : runv 27 33 ls (.int v :: .int i :: .ref a :: st) h = vst2 h a 100 i (.int v) fun h1 => runv 27 34 ls st h1 := runv_iast (show vcode 27 33 = some (.iastore, 1, 0, 0) from rfl)
theorem s27_34 : runv 27 34 ls st h = runv 27 35 ls (.int 1 :: st) h := runv_plain (x := (.iconst 1, 1, 0, 0)) rfl rfl
theorem s27_35 {v : Int32} (hv : v &&& 1 = v) : runv 27 35 ls [.int v] h = some (some (.int v), h) := runv_ret (show vcode 27 35 = some (.ireturn, 1, 0, 0) from rfl) rfl (by simp only [vretv, show vret 27 = some .boolean from rfl, if_pos hv])
theorem s28_0 {a0 : Option Value} {x : Int32} : runv 28 0 (a0 :: some (.int x) :: ls) st h = runv 28 1 (a0 :: some (.int x) :: ls) (.int x :: st) h := runv_plain (x := (.iload_n 1, 1, 0, 0)) rfl rfl
theorem s28_1 : runv 28 1 ls st h = runv 28 2 ls (.int 0 :: st) h := runv_plain (x := (.iconst 0, 1, 0, 0)) rfl rfl
theorem s28_2 {x : Nat} : runv 28 2 (some (.ref x) :: ls) st h = runv 28 3 (some (.ref x) :: ls) (.ref x :: st) h := runv_plain (x := (.aload_n 0, 1, 0, 0)) rfl rfl
theorem s28_3 {a : Nat} : runv 28 3 ls (.ref a :: st) h = vgf h a 9 1 fun v => runv 28 6 ls (v :: st) h := runv_get (show vcode 28 3 = some (.getfield 67, 3, 9, 1) from rfl)
theorem s28_6 {p0 : Int32} {p1 : Int32} {p2 : Int32} (h1 : st.length ≤ 4) : runv 28 6 ls (.int p2 :: .int p1 :: .int p0 :: st) h = vbind (callv 24 [.int p0, .int p1, .int p2] h) fun v h' => runv 28 9 ls (vpush v st) h' := runv_call (show vcode 28 6 = some (.invokestatic 63, 3, 24, 3) from rfl) rfl (vcall_mk rfl rfl h1 (by decide) rfl rfl)
theorem s28_9 {x : Int32} : runv 28 9 ls (.int x :: st) h = if x = 0 then runv 28 12 ls st h else runv 28 14 ls st h := (runv_if (show vcode 28 9 = some (.ifCond .ne (5), 3, 0, 0) from rfl) (by decide)).trans (by simp only [vcmp, decide_eq_true_eq, ite_not]; rfl)
theorem s28_12 : runv 28 12 ls st h = runv 28 13 ls (.int 0 :: st) h := runv_plain (x := (.iconst 0, 1, 0, 0)) rfl rfl
theorem s28_13 {v : Int32} (hv : v &&& 1 = v) : runv 28 13 ls [.int v] h = some (some (.int v), h) := runv_ret (show vcode 28 13 = some (.ireturn, 1, 0, 0) from rfl) rfl (by simp only [vretv, show vret 28 = some .boolean from rfl, if_pos hv])
theorem s28_14 {x : Nat} : runv 28 14 (some (.ref x) :: ls) st h = runv 28 15 (some (.ref x) :: ls) (.ref x :: st) h := runv_plain (x := (.aload_n 0, 1, 0, 0)) rfl rfl
theorem s28_15 {a0 : Option Value} {x : Int32} : runv 28 15 (a0 :: some (.int x) :: ls) st h = runv 28 16 (a0 :: some (.int x) :: ls) (.int x :: st) h := runv_plain (x := (.iload_n 1, 1, 0, 0)) rfl rfl
theorem s28_16 {a : Nat} {v : Value} : runv 28 16 ls (v :: .ref a :: st) h = vpf h a 9 1 v fun h1 => runv 28 19 ls st h1 := runv_put (show vcode 28 16 = some (.putfield 67, 3, 9, 1) from rfl)
theorem s28_19 : runv 28 19 ls st h = runv 28 20 ls (.int 1 :: st) h := runv_plain (x := (.iconst 1, 1, 0, 0)) rfl rfl
theorem s28_20 {v : Int32} (hv : v &&& 1 = v) : runv 28 20 ls [.int v] h = some (some (.int v), h) := runv_ret (show vcode 28 20 = some (.ireturn, 1, 0, 0) from rfl) rfl (by simp only [vretv, show vret 28 = some .boolean from rfl, if_pos hv])
theorem s29_0 {x : Nat} : runv 29 0 (some (.ref x) :: ls) st h = runv 29 1 (some (.ref x) :: ls) (.ref x :: st) h := runv_plain (x := (.aload_n 0, 1, 0, 0)) rfl rfl
theorem s29_1 {a : Nat} : runv 29 1 ls (.ref a :: st) h = vgf h a 9 1 fun v => runv 29 4 ls (v :: st) h := runv_get (show vcode 29 1 = some (.getfield 67, 3, 9, 1) from rfl)
theorem s29_4 {v : Int32} : runv 29 4 ls [.int v] h = some (some (.int v), h) := runv_ret (show vcode 29 4 = some (.ireturn, 1, 0, 0) from rfl) rfl rfl
theorem s30_0 {a0 : Option Value} {x : Int32} : runv 30 0 (a0 :: some (.int x) :: ls) st h = runv 30 1 (a0 :: some (.int x) :: ls) (.int x :: st) h := runv_plain (x := (.iload_n 1, 1, 0, 0)) rfl rfl
theorem s30_1 : runv 30 1 ls st h = runv 30 2 ls (.int 0 :: st) h := runv_plain (x := (.iconst 0, 1, 0, 0)) rfl rfl
theorem s30_2 {x : Nat} : runv 30 2 (some (.ref x) :: ls) st h = runv 30 3 (some (.ref x) :: ls) (.ref x :: st) h := runv_plain (x := (.aload_n 0, 1, 0, 0)) rfl rfl
theorem s30_3 {a : Nat} : runv 30 3 ls (.ref a :: st) h = vgf h a 9 1 fun v => runv 30 6 ls (v :: st) h := runv_get (show vcode 30 3 = some (.getfield 67, 3, 9, 1) from rfl)
theorem s30_6 : runv 30 6 ls st h = runv 30 7 ls (.int 1 :: st) h := runv_plain (x := (.iconst 1, 1, 0, 0)) rfl rfl
theorem s30_7 {x y : Int32} : runv 30 7 ls (.int y :: .int x :: st) h = runv 30 8 ls (.int (x - y) :: st) h := runv_plain (x := (.isub, 1, 0, 0)) rfl rfl
theorem s30_8 {p0 : Int32} {p1 : Int32} {p2 : Int32} (h1 : st.length ≤ 4) : runv 30 8 ls (.int p2 :: .int p1 :: .int p0 :: st) h = vbind (callv 24 [.int p0, .int p1, .int p2] h) fun v h' => runv 30 11 ls (vpush v st) h' := runv_call (show vcode 30 8 = some (.invokestatic 63, 3, 24, 3) from rfl) rfl (vcall_mk rfl rfl h1 (by decide) rfl rfl)
theorem s30_11 {x : Int32} : runv 30 11 ls (.int x :: st) h = if x = 0 then runv 30 23 ls st h else runv 30 14 ls st h := (runv_if (show vcode 30 11 = some (.ifCond .eq (12), 3, 0, 0) from rfl) (by decide)).trans (by simp only [vcmp, decide_eq_true_eq]; rfl)
theorem s30_14 {x : Nat} : runv 30 14 (some (.ref x) :: ls) st h = runv 30 15 (some (.ref x) :: ls) (.ref x :: st) h := runv_plain (x := (.aload_n 0, 1, 0, 0)) rfl rfl
theorem s30_15 {a : Nat} : runv 30 15 ls (.ref a :: st) h = vgf h a 9 0 fun v => runv 30 18 ls (v :: st) h := runv_get (show vcode 30 15 = some (.getfield 7, 3, 9, 0) from rfl)
theorem s30_18 {a0 : Option Value} {x : Int32} : runv 30 18 (a0 :: some (.int x) :: ls) st h = runv 30 19 (a0 :: some (.int x) :: ls) (.int x :: st) h := runv_plain (x := (.iload_n 1, 1, 0, 0)) rfl rfl
theorem s30_19 {a : Nat} {i : Int32} : runv 30 19 ls (.int i :: .ref a :: st) h = vld2 h a (fun t => t == 100 || t == 104) i fun v => runv 30 20 ls (v :: st) h := runv_iald (show vcode 30 19 = some (.iaload, 1, 0, 0) from rfl)
theorem s30_20 : runv 30 20 ls st h = runv 30 24 ls st h := runv_plain (x := (.goto (4), 3, 0, 0)) rfl rfl
theorem s30_23 : runv 30 23 ls st h = runv 30 24 ls (.int (-1) :: st) h := runv_plain (x := (.iconst (-1), 1, 0, 0)) rfl rfl
theorem s30_24 {v : Int32} : runv 30 24 ls [.int v] h = some (some (.int v), h) := runv_ret (show vcode 30 24 = some (.ireturn, 1, 0, 0) from rfl) rfl rfl
theorem s31_0 : runv 31 0 ls st h = runv 31 2 ls (.int 7 :: st) h := runv_plain (x := (.bipush (7), 2, 0, 0)) rfl rfl
theorem s31_2 {x : Nat} : runv 31 2 (some (.ref x) :: ls) st h = runv 31 3 (some (.ref x) :: ls) (.ref x :: st) h := runv_plain (x := (.aload_n 0, 1, 0, 0)) rfl rfl
theorem s31_3 {a : Nat} : runv 31 3 ls (.ref a :: st) h = vgf h a 9 3 fun v => runv 31 6 ls (v :: st) h := runv_get (show vcode 31 3 = some (.getfield 16, 3, 9, 3) from rfl)
theorem s31_6 {a0 : Option Value} {x : Int32} : runv 31 6 (a0 :: some (.int x) :: ls) st h = runv 31 7 (a0 :: some (.int x) :: ls) (.int x :: st) h := runv_plain (x := (.iload_n 1, 1, 0, 0)) rfl rfl
theorem s31_7 {a : Nat} {i : Int32} : runv 31 7 ls (.int i :: .ref a :: st) h = vld2 h a (fun t => t == 100 || t == 104) i fun v => runv 31 8 ls (v :: st) h := runv_iald (show vcode 31 7 = some (.iaload, 1, 0, 0) from rfl)
theorem s31_8 {p0 : Int32} {p1 : Int32} (h1 : st.length ≤ 4) : runv 31 8 ls (.int p1 :: .int p0 :: st) h = vbind (callv 25 [.int p0, .int p1] h) fun v h' => runv 31 11 ls (vpush v st) h' := runv_call (show vcode 31 8 = some (.invokestatic 71, 3, 25, 2) from rfl) rfl (vcall_mk rfl rfl h1 (by decide) rfl rfl)
theorem s31_11 {a0 a1 a2 : Option Value} {x : Int32} : runv 31 11 (a0 :: a1 :: a2 :: ls) (.int x :: st) h = runv 31 12 (a0 :: a1 :: some (.int x) :: ls) st h := (runv_plain (x := (.istore_n 2, 1, 0, 0)) rfl rfl).trans (by simp only [vstep, List.length_cons, show ∀ n : Nat, 2 < n + 3 from fun n => by omega, if_true]; rfl)
theorem s31_12 {a0 a1 : Option Value} {x : Int32} : runv 31 12 (a0 :: a1 :: some (.int x) :: ls) st h = runv 31 13 (a0 :: a1 :: some (.int x) :: ls) (.int x :: st) h := runv_plain (x := (.iload_n 2, 1, 0, 0)) rfl rfl
theorem s31_13 {x : Nat} : runv 31 13 (some (.ref x) :: ls) st h = runv 31 14 (some (.ref x) :: ls) (.ref x :: st) h := runv_plain (x := (.aload_n 0, 1, 0, 0)) rfl rfl
theorem s31_14 {a : Nat} : runv 31 14 ls (.ref a :: st) h = vgf h a 9 4 fun v => runv 31 17 ls (v :: st) h := runv_get (show vcode 31 14 = some (.getfield 19, 3, 9, 4) from rfl)
theorem s31_17 {a0 : Option Value} {x : Int32} : runv 31 17 (a0 :: some (.int x) :: ls) st h = runv 31 18 (a0 :: some (.int x) :: ls) (.int x :: st) h := runv_plain (x := (.iload_n 1, 1, 0, 0)) rfl rfl
theorem s31_18 {a : Nat} {i : Int32} : runv 31 18 ls (.int i :: .ref a :: st) h = vld2 h a (fun t => t == 100 || t == 104) i fun v => runv 31 19 ls (v :: st) h := runv_iald (show vcode 31 18 = some (.iaload, 1, 0, 0) from rfl)
theorem s31_19 {p0 : Int32} {p1 : Int32} (h1 : st.length ≤ 4) : runv 31 19 ls (.int p1 :: .int p0 :: st) h = vbind (callv 25 [.int p0, .int p1] h) fun v h' => runv 31 22 ls (vpush v st) h' := runv_call (show vcode 31 19 = some (.invokestatic 71, 3, 25, 2) from rfl) rfl (vcall_mk rfl rfl h1 (by decide) rfl rfl)
theorem s31_22 {a0 a1 a2 : Option Value} {x : Int32} : runv 31 22 (a0 :: a1 :: a2 :: ls) (.int x :: st) h = runv 31 23 (a0 :: a1 :: some (.int x) :: ls) st h := (runv_plain (x := (.istore_n 2, 1, 0, 0)) rfl rfl).trans (by simp only [vstep, List.length_cons, show ∀ n : Nat, 2 < n + 3 from fun n => by omega, if_true]; rfl)
theorem s31_23 : runv 31 23 ls st h = runv 31 24 ls (.int 0 :: st) h := runv_plain (x := (.iconst 0, 1, 0, 0)) rfl rfl
theorem s31_24 {a0 a1 a2 a3 : Option Value} {x : Int32} : runv 31 24 (a0 :: a1 :: a2 :: a3 :: ls) (.int x :: st) h = runv 31 25 (a0 :: a1 :: a2 :: some (.int x) :: ls) st h := (runv_plain (x := (.istore_n 3, 1, 0, 0)) rfl rfl).trans (by simp only [vstep, List.length_cons, show ∀ n : Nat, 3 < n + 4 from fun n => by omega, if_true]; rfl)
theorem s31_25 {a0 a1 a2 : Option Value} {x : Int32} : runv 31 25 (a0 :: a1 :: a2 :: some (.int x) :: ls) st h = runv 31 26 (a0 :: a1 :: a2 :: some (.int x) :: ls) (.int x :: st) h := runv_plain (x := (.iload_n 3, 1, 0, 0)) rfl rfl
theorem s31_26 {x : Nat} : runv 31 26 (some (.ref x) :: ls) st h = runv 31 27 (some (.ref x) :: ls) (.ref x :: st) h := runv_plain (x := (.aload_n 0, 1, 0, 0)) rfl rfl
theorem s31_27 {a : Nat} : runv 31 27 ls (.ref a :: st) h = vgf h a 9 4 fun v => runv 31 30 ls (v :: st) h := runv_get (show vcode 31 27 = some (.getfield 19, 3, 9, 4) from rfl)
theorem s31_30 {a0 : Option Value} {x : Int32} : runv 31 30 (a0 :: some (.int x) :: ls) st h = runv 31 31 (a0 :: some (.int x) :: ls) (.int x :: st) h := runv_plain (x := (.iload_n 1, 1, 0, 0)) rfl rfl
theorem s31_31 {a : Nat} {i : Int32} : runv 31 31 ls (.int i :: .ref a :: st) h = vld2 h a (fun t => t == 100 || t == 104) i fun v => runv 31 32 ls (v :: st) h := runv_iald (show vcode 31 31 = some (.iaload, 1, 0, 0) from rfl)
theorem s31_32 {x y : Int32} : runv 31 32 ls (.int y :: .int x :: st) h = if y ≤ x then runv 31 57 ls st h else runv 31 35 ls st h := (runv_icmp (show vcode 31 32 = some (.if_icmp .ge (25), 3, 0, 0) from rfl) (by decide)).trans (by simp only [vcmp, decide_eq_true_eq]; rfl)
theorem s31_35 {a0 a1 : Option Value} {x : Int32} : runv 31 35 (a0 :: a1 :: some (.int x) :: ls) st h = runv 31 36 (a0 :: a1 :: some (.int x) :: ls) (.int x :: st) h := runv_plain (x := (.iload_n 2, 1, 0, 0)) rfl rfl
theorem s31_36 {x : Nat} : runv 31 36 (some (.ref x) :: ls) st h = runv 31 37 (some (.ref x) :: ls) (.ref x :: st) h := runv_plain (x := (.aload_n 0, 1, 0, 0)) rfl rfl
theorem s31_37 {a : Nat} : runv 31 37 ls (.ref a :: st) h = vgf h a 9 5 fun v => runv 31 40 ls (v :: st) h := runv_get (show vcode 31 37 = some (.getfield 22, 3, 9, 5) from rfl)
theorem s31_40 : runv 31 40 ls st h = runv 31 42 ls (.int 24 :: st) h := runv_plain (x := (.bipush (24), 2, 0, 0)) rfl rfl
theorem s31_42 {a0 : Option Value} {x : Int32} : runv 31 42 (a0 :: some (.int x) :: ls) st h = runv 31 43 (a0 :: some (.int x) :: ls) (.int x :: st) h := runv_plain (x := (.iload_n 1, 1, 0, 0)) rfl rfl
theorem s31_43 {x y : Int32} : runv 31 43 ls (.int y :: .int x :: st) h = runv 31 44 ls (.int (x * y) :: st) h := runv_plain (x := (.imul, 1, 0, 0)) rfl rfl
theorem s31_44 {a0 a1 a2 : Option Value} {x : Int32} : runv 31 44 (a0 :: a1 :: a2 :: some (.int x) :: ls) st h = runv 31 45 (a0 :: a1 :: a2 :: some (.int x) :: ls) (.int x :: st) h := runv_plain (x := (.iload_n 3, 1, 0, 0)) rfl rfl
theorem s31_45 {x y : Int32} : runv 31 45 ls (.int y :: .int x :: st) h = runv 31 46 ls (.int (x + y) :: st) h := runv_plain (x := (.iadd, 1, 0, 0)) rfl rfl
theorem s31_46 {a : Nat} {i : Int32} : runv 31 46 ls (.int i :: .ref a :: st) h = vld2 h a (fun t => t == 100 || t == 104) i fun v => runv 31 47 ls (v :: st) h := runv_iald (show vcode 31 46 = some (.iaload, 1, 0, 0) from rfl)
theorem s31_47 {p0 : Int32} {p1 : Int32} (h1 : st.length ≤ 4) : runv 31 47 ls (.int p1 :: .int p0 :: st) h = vbind (callv 25 [.int p0, .int p1] h) fun v h' => runv 31 50 ls (vpush v st) h' := runv_call (show vcode 31 47 = some (.invokestatic 71, 3, 25, 2) from rfl) rfl (vcall_mk rfl rfl h1 (by decide) rfl rfl)
theorem s31_50 {a0 a1 a2 : Option Value} {x : Int32} : runv 31 50 (a0 :: a1 :: a2 :: ls) (.int x :: st) h = runv 31 51 (a0 :: a1 :: some (.int x) :: ls) st h := (runv_plain (x := (.istore_n 2, 1, 0, 0)) rfl rfl).trans (by simp only [vstep, List.length_cons, show ∀ n : Nat, 2 < n + 3 from fun n => by omega, if_true]; rfl)
theorem s31_51 {a0 a1 a2 : Option Value} {x : Int32} : runv 31 51 (a0 :: a1 :: a2 :: some (.int x) :: ls) st h = runv 31 54 (a0 :: a1 :: a2 :: some (.int (x + 1)) :: ls) st h := runv_plain (x := (.iinc 3 (1), 3, 0, 0)) rfl rfl
theorem s31_54 : runv 31 54 ls st h = runv 31 25 ls st h := runv_plain (x := (.goto (-29), 3, 0, 0)) rfl rfl
theorem s31_57 {a0 a1 : Option Value} {x : Int32} : runv 31 57 (a0 :: a1 :: some (.int x) :: ls) st h = runv 31 58 (a0 :: a1 :: some (.int x) :: ls) (.int x :: st) h := runv_plain (x := (.iload_n 2, 1, 0, 0)) rfl rfl
theorem s31_58 {v : Int32} : runv 31 58 ls [.int v] h = some (some (.int v), h) := runv_ret (show vcode 31 58 = some (.ireturn, 1, 0, 0) from rfl) rfl rfl
theorem s32_0 {x : Int32} : runv 32 0 (some (.int x) :: ls) st h = runv 32 1 (some (.int x) :: ls) (.int x :: st) h := runv_plain (x := (.iload_n 0, 1, 0, 0)) rfl rfl
theorem s32_1 {x : Int32} : runv 32 1 ls (.int x :: st) h = if x = 0 then runv 32 4 ls st h else runv 32 8 ls st h := (runv_if (show vcode 32 1 = some (.ifCond .ne (7), 3, 0, 0) from rfl) (by decide)).trans (by simp only [vcmp, decide_eq_true_eq, ite_not]; rfl)
theorem s32_4 : runv 32 4 ls st h = runv 32 5 ls (.int 0 :: st) h := runv_plain (x := (.iconst 0, 1, 0, 0)) rfl rfl
theorem s32_5 : runv 32 5 ls st h = runv 32 10 ls st h := runv_plain (x := (.goto (5), 3, 0, 0)) rfl rfl
theorem s32_8 : runv 32 8 ls st h = runv 32 10 ls (.int 16 :: st) h := runv_plain (x := (.bipush (16), 2, 0, 0)) rfl rfl
theorem s32_10 {v : Int32} : runv 32 10 ls [.int v] h = some (some (.int v), h) := runv_ret (show vcode 32 10 = some (.ireturn, 1, 0, 0) from rfl) rfl rfl
theorem s33_0 : runv 33 0 ls st h = runv 33 1 ls (.int (-1) :: st) h := runv_plain (x := (.iconst (-1), 1, 0, 0)) rfl rfl
theorem s33_1 {a0 a1 a2 a3 : Option Value} {x : Int32} : runv 33 1 (a0 :: a1 :: a2 :: a3 :: ls) (.int x :: st) h = runv 33 2 (a0 :: a1 :: a2 :: some (.int x) :: ls) st h := (runv_plain (x := (.istore_n 3, 1, 0, 0)) rfl rfl).trans (by simp only [vstep, List.length_cons, show ∀ n : Nat, 3 < n + 4 from fun n => by omega, if_true]; rfl)
theorem s33_2 {a0 : Option Value} {x : Int32} : runv 33 2 (a0 :: some (.int x) :: ls) st h = runv 33 3 (a0 :: some (.int x) :: ls) (.int x :: st) h := runv_plain (x := (.iload_n 1, 1, 0, 0)) rfl rfl
theorem s33_3 {p0 : Int32} (h1 : st.length ≤ 4) : runv 33 3 ls (.int p0 :: st) h = vbind (callv 32 [.int p0] h) fun v h' => runv 33 6 ls (vpush v st) h' := runv_call (show vcode 33 3 = some (.invokestatic 75, 3, 32, 1) from rfl) rfl (vcall_mk rfl rfl h1 (by decide) rfl rfl)
theorem s33_6 {a0 a1 a2 a3 a4 : Option Value} {x : Int32} : runv 33 6 (a0 :: a1 :: a2 :: a3 :: a4 :: ls) (.int x :: st) h = runv 33 8 (a0 :: a1 :: a2 :: a3 :: some (.int x) :: ls) st h := (runv_plain (x := (.istore 4, 2, 0, 0)) rfl rfl).trans (by simp only [vstep, List.length_cons, show ∀ n : Nat, 4 < n + 5 from fun n => by omega, if_true]; rfl)
theorem s33_8 {a0 a1 a2 a3 : Option Value} {x : Int32} : runv 33 8 (a0 :: a1 :: a2 :: a3 :: some (.int x) :: ls) st h = runv 33 10 (a0 :: a1 :: a2 :: a3 :: some (.int x) :: ls) (.int x :: st) h := runv_plain (x := (.iload 4, 2, 0, 0)) rfl rfl
theorem s33_10 {a0 : Option Value} {x : Int32} : runv 33 10 (a0 :: some (.int x) :: ls) st h = runv 33 11 (a0 :: some (.int x) :: ls) (.int x :: st) h := runv_plain (x := (.iload_n 1, 1, 0, 0)) rfl rfl
theorem s33_11 {p0 : Int32} (h1 : st.length ≤ 4) : runv 33 11 ls (.int p0 :: st) h = vbind (callv 32 [.int p0] h) fun v h' => runv 33 14 ls (vpush v st) h' := runv_call (show vcode 33 11 = some (.invokestatic 75, 3, 32, 1) from rfl) rfl (vcall_mk rfl rfl h1 (by decide) rfl rfl)
theorem s33_14 {x : Nat} : runv 33 14 (some (.ref x) :: ls) st h = runv 33 15 (some (.ref x) :: ls) (.ref x :: st) h := runv_plain (x := (.aload_n 0, 1, 0, 0)) rfl rfl
theorem s33_15 {a : Nat} : runv 33 15 ls (.ref a :: st) h = vgf h a 9 2 fun v => runv 33 18 ls (v :: st) h := runv_get (show vcode 33 15 = some (.getfield 13, 3, 9, 2) from rfl)
theorem s33_18 {a0 : Option Value} {x : Int32} : runv 33 18 (a0 :: some (.int x) :: ls) st h = runv 33 19 (a0 :: some (.int x) :: ls) (.int x :: st) h := runv_plain (x := (.iload_n 1, 1, 0, 0)) rfl rfl
theorem s33_19 {a : Nat} {i : Int32} : runv 33 19 ls (.int i :: .ref a :: st) h = vld2 h a (fun t => t == 100 || t == 104) i fun v => runv 33 20 ls (v :: st) h := runv_iald (show vcode 33 19 = some (.iaload, 1, 0, 0) from rfl)
theorem s33_20 {x y : Int32} : runv 33 20 ls (.int y :: .int x :: st) h = runv 33 21 ls (.int (x + y) :: st) h := runv_plain (x := (.iadd, 1, 0, 0)) rfl rfl
theorem s33_21 {x y : Int32} : runv 33 21 ls (.int y :: .int x :: st) h = if y ≤ x then runv 33 47 ls st h else runv 33 24 ls st h := (runv_icmp (show vcode 33 21 = some (.if_icmp .ge (26), 3, 0, 0) from rfl) (by decide)).trans (by simp only [vcmp, decide_eq_true_eq]; rfl)
theorem s33_24 {x : Nat} : runv 33 24 (some (.ref x) :: ls) st h = runv 33 25 (some (.ref x) :: ls) (.ref x :: st) h := runv_plain (x := (.aload_n 0, 1, 0, 0)) rfl rfl
theorem s33_25 {a0 a1 a2 a3 : Option Value} {x : Int32} : runv 33 25 (a0 :: a1 :: a2 :: a3 :: some (.int x) :: ls) st h = runv 33 27 (a0 :: a1 :: a2 :: a3 :: some (.int x) :: ls) (.int x :: st) h := runv_plain (x := (.iload 4, 2, 0, 0)) rfl rfl
theorem s33_27 {a : Nat} {p0 : Int32} (h1 : st.length ≤ 4) (h2 : vtag h a = 9) : runv 33 27 ls (.int p0 :: .ref a :: st) h = vbind (callv 31 [.ref a, .int p0] h) fun v h' => runv 33 30 ls (vpush v st) h' := runv_call (show vcode 33 27 = some (.invokevirtual 79, 3, 31, 2) from rfl) rfl (vcall_mk rfl rfl h1 (by decide) (vrecv_tag h2 (by decide)) rfl)
theorem s33_30 {a0 a1 : Option Value} {x : Int32} : runv 33 30 (a0 :: a1 :: some (.int x) :: ls) st h = runv 33 31 (a0 :: a1 :: some (.int x) :: ls) (.int x :: st) h := runv_plain (x := (.iload_n 2, 1, 0, 0)) rfl rfl
theorem s33_31 {x y : Int32} : runv 33 31 ls (.int y :: .int x :: st) h = if x = y then runv 33 34 ls st h else runv 33 39 ls st h := (runv_icmp (show vcode 33 31 = some (.if_icmp .ne (8), 3, 0, 0) from rfl) (by decide)).trans (by simp only [vcmp, decide_eq_true_eq, ite_not]; rfl)
theorem s33_34 {a0 a1 a2 a3 : Option Value} {x : Int32} : runv 33 34 (a0 :: a1 :: a2 :: a3 :: some (.int x) :: ls) st h = runv 33 36 (a0 :: a1 :: a2 :: a3 :: some (.int x) :: ls) (.int x :: st) h := runv_plain (x := (.iload 4, 2, 0, 0)) rfl rfl
theorem s33_36 : runv 33 36 ls st h = runv 33 40 ls st h := runv_plain (x := (.goto (4), 3, 0, 0)) rfl rfl
theorem s33_39 {a0 a1 a2 : Option Value} {x : Int32} : runv 33 39 (a0 :: a1 :: a2 :: some (.int x) :: ls) st h = runv 33 40 (a0 :: a1 :: a2 :: some (.int x) :: ls) (.int x :: st) h := runv_plain (x := (.iload_n 3, 1, 0, 0)) rfl rfl
theorem s33_40 {a0 a1 a2 a3 : Option Value} {x : Int32} : runv 33 40 (a0 :: a1 :: a2 :: a3 :: ls) (.int x :: st) h = runv 33 41 (a0 :: a1 :: a2 :: some (.int x) :: ls) st h := (runv_plain (x := (.istore_n 3, 1, 0, 0)) rfl rfl).trans (by simp only [vstep, List.length_cons, show ∀ n : Nat, 3 < n + 4 from fun n => by omega, if_true]; rfl)
theorem s33_41 {a0 a1 a2 a3 : Option Value} {x : Int32} : runv 33 41 (a0 :: a1 :: a2 :: a3 :: some (.int x) :: ls) st h = runv 33 44 (a0 :: a1 :: a2 :: a3 :: some (.int (x + 1)) :: ls) st h := runv_plain (x := (.iinc 4 (1), 3, 0, 0)) rfl rfl
theorem s33_44 : runv 33 44 ls st h = runv 33 8 ls st h := runv_plain (x := (.goto (-36), 3, 0, 0)) rfl rfl
theorem s33_47 {a0 a1 a2 : Option Value} {x : Int32} : runv 33 47 (a0 :: a1 :: a2 :: some (.int x) :: ls) st h = runv 33 48 (a0 :: a1 :: a2 :: some (.int x) :: ls) (.int x :: st) h := runv_plain (x := (.iload_n 3, 1, 0, 0)) rfl rfl
theorem s33_48 {v : Int32} : runv 33 48 ls [.int v] h = some (some (.int v), h) := runv_ret (show vcode 33 48 = some (.ireturn, 1, 0, 0) from rfl) rfl rfl
theorem s34_0 {x : Nat} : runv 34 0 (some (.ref x) :: ls) st h = runv 34 1 (some (.ref x) :: ls) (.ref x :: st) h := runv_plain (x := (.aload_n 0, 1, 0, 0)) rfl rfl
theorem s34_1 {a : Nat} : runv 34 1 ls (.ref a :: st) h = vgf h a 9 3 fun v => runv 34 4 ls (v :: st) h := runv_get (show vcode 34 1 = some (.getfield 16, 3, 9, 3) from rfl)
theorem s34_4 {a0 : Option Value} {x : Int32} : runv 34 4 (a0 :: some (.int x) :: ls) st h = runv 34 5 (a0 :: some (.int x) :: ls) (.int x :: st) h := runv_plain (x := (.iload_n 1, 1, 0, 0)) rfl rfl
theorem s34_5 {a : Nat} {i : Int32} : runv 34 5 ls (.int i :: .ref a :: st) h = vld2 h a (fun t => t == 100 || t == 104) i fun v => runv 34 6 ls (v :: st) h := runv_iald (show vcode 34 5 = some (.iaload, 1, 0, 0) from rfl)
theorem s34_6 {x : Nat} : runv 34 6 (some (.ref x) :: ls) st h = runv 34 7 (some (.ref x) :: ls) (.ref x :: st) h := runv_plain (x := (.aload_n 0, 1, 0, 0)) rfl rfl
theorem s34_7 {a : Nat} : runv 34 7 ls (.ref a :: st) h = vgf h a 9 3 fun v => runv 34 10 ls (v :: st) h := runv_get (show vcode 34 7 = some (.getfield 16, 3, 9, 3) from rfl)
theorem s34_10 {a0 a1 : Option Value} {x : Int32} : runv 34 10 (a0 :: a1 :: some (.int x) :: ls) st h = runv 34 11 (a0 :: a1 :: some (.int x) :: ls) (.int x :: st) h := runv_plain (x := (.iload_n 2, 1, 0, 0)) rfl rfl
theorem s34_11 {a : Nat} {i : Int32} : runv 34 11 ls (.int i :: .ref a :: st) h = vld2 h a (fun t => t == 100 || t == 104) i fun v => runv 34 12 ls (v :: st) h := runv_iald (show vcode 34 11 = some (.iaload, 1, 0, 0) from rfl)
theorem s34_12 {x y : Int32} : runv 34 12 ls (.int y :: .int x :: st) h = if x = y then runv 34 15 ls st h else runv 34 34 ls st h := (runv_icmp (show vcode 34 12 = some (.if_icmp .ne (22), 3, 0, 0) from rfl) (by decide)).trans (by simp only [vcmp, decide_eq_true_eq, ite_not]; rfl)
theorem s34_15 {x : Nat} : runv 34 15 (some (.ref x) :: ls) st h = runv 34 16 (some (.ref x) :: ls) (.ref x :: st) h := runv_plain (x := (.aload_n 0, 1, 0, 0)) rfl rfl
theorem s34_16 {a : Nat} : runv 34 16 ls (.ref a :: st) h = vgf h a 9 4 fun v => runv 34 19 ls (v :: st) h := runv_get (show vcode 34 16 = some (.getfield 19, 3, 9, 4) from rfl)
theorem s34_19 {a0 : Option Value} {x : Int32} : runv 34 19 (a0 :: some (.int x) :: ls) st h = runv 34 20 (a0 :: some (.int x) :: ls) (.int x :: st) h := runv_plain (x := (.iload_n 1, 1, 0, 0)) rfl rfl
theorem s34_20 {a : Nat} {i : Int32} : runv 34 20 ls (.int i :: .ref a :: st) h = vld2 h a (fun t => t == 100 || t == 104) i fun v => runv 34 21 ls (v :: st) h := runv_iald (show vcode 34 20 = some (.iaload, 1, 0, 0) from rfl)
theorem s34_21 {x : Nat} : runv 34 21 (some (.ref x) :: ls) st h = runv 34 22 (some (.ref x) :: ls) (.ref x :: st) h := runv_plain (x := (.aload_n 0, 1, 0, 0)) rfl rfl
theorem s34_22 {a : Nat} : runv 34 22 ls (.ref a :: st) h = vgf h a 9 4 fun v => runv 34 25 ls (v :: st) h := runv_get (show vcode 34 22 = some (.getfield 19, 3, 9, 4) from rfl)
theorem s34_25 {a0 a1 : Option Value} {x : Int32} : runv 34 25 (a0 :: a1 :: some (.int x) :: ls) st h = runv 34 26 (a0 :: a1 :: some (.int x) :: ls) (.int x :: st) h := runv_plain (x := (.iload_n 2, 1, 0, 0)) rfl rfl
theorem s34_26 {a : Nat} {i : Int32} : runv 34 26 ls (.int i :: .ref a :: st) h = vld2 h a (fun t => t == 100 || t == 104) i fun v => runv 34 27 ls (v :: st) h := runv_iald (show vcode 34 26 = some (.iaload, 1, 0, 0) from rfl)
theorem s34_27 {x y : Int32} : runv 34 27 ls (.int y :: .int x :: st) h = if x = y then runv 34 30 ls st h else runv 34 34 ls st h := (runv_icmp (show vcode 34 27 = some (.if_icmp .ne (7), 3, 0, 0) from rfl) (by decide)).trans (by simp only [vcmp, decide_eq_true_eq, ite_not]; rfl)
theorem s34_30 : runv 34 30 ls st h = runv 34 31 ls (.int 1 :: st) h := runv_plain (x := (.iconst 1, 1, 0, 0)) rfl rfl
theorem s34_31 : runv 34 31 ls st h = runv 34 35 ls st h := runv_plain (x := (.goto (4), 3, 0, 0)) rfl rfl
theorem s34_34 : runv 34 34 ls st h = runv 34 35 ls (.int 0 :: st) h := runv_plain (x := (.iconst 0, 1, 0, 0)) rfl rfl
theorem s34_35 {a0 a1 a2 a3 : Option Value} {x : Int32} : runv 34 35 (a0 :: a1 :: a2 :: a3 :: ls) (.int x :: st) h = runv 34 36 (a0 :: a1 :: a2 :: some (.int x) :: ls) st h := (runv_plain (x := (.istore_n 3, 1, 0, 0)) rfl rfl).trans (by simp only [vstep, List.length_cons, show ∀ n : Nat, 3 < n + 4 from fun n => by omega, if_true]; rfl)
theorem s34_36 : runv 34 36 ls st h = runv 34 37 ls (.int 0 :: st) h := runv_plain (x := (.iconst 0, 1, 0, 0)) rfl rfl
theorem s34_37 {a0 a1 a2 a3 a4 : Option Value} {x : Int32} : runv 34 37 (a0 :: a1 :: a2 :: a3 :: a4 :: ls) (.int x :: st) h = runv 34 39 (a0 :: a1 :: a2 :: a3 :: some (.int x) :: ls) st h := (runv_plain (x := (.istore 4, 2, 0, 0)) rfl rfl).trans (by simp only [vstep, List.length_cons, show ∀ n : Nat, 4 < n + 5 from fun n => by omega, if_true]; rfl)
theorem s34_39 {a0 a1 a2 a3 : Option Value} {x : Int32} : runv 34 39 (a0 :: a1 :: a2 :: a3 :: some (.int x) :: ls) st h = runv 34 41 (a0 :: a1 :: a2 :: a3 :: some (.int x) :: ls) (.int x :: st) h := runv_plain (x := (.iload 4, 2, 0, 0)) rfl rfl
theorem s34_41 : runv 34 41 ls st h = runv 34 43 ls (.int 24 :: st) h := runv_plain (x := (.bipush (24), 2, 0, 0)) rfl rfl
theorem s34_43 {x y : Int32} : runv 34 43 ls (.int y :: .int x :: st) h = if y ≤ x then runv 34 100 ls st h else runv 34 46 ls st h := (runv_icmp (show vcode 34 43 = some (.if_icmp .ge (57), 3, 0, 0) from rfl) (by decide)).trans (by simp only [vcmp, decide_eq_true_eq]; rfl)
theorem s34_46 {a0 a1 a2 : Option Value} {x : Int32} : runv 34 46 (a0 :: a1 :: a2 :: some (.int x) :: ls) st h = runv 34 47 (a0 :: a1 :: a2 :: some (.int x) :: ls) (.int x :: st) h := runv_plain (x := (.iload_n 3, 1, 0, 0)) rfl rfl
theorem s34_47 {x : Int32} : runv 34 47 ls (.int x :: st) h = if x = 0 then runv 34 92 ls st h else runv 34 50 ls st h := (runv_if (show vcode 34 47 = some (.ifCond .eq (45), 3, 0, 0) from rfl) (by decide)).trans (by simp only [vcmp, decide_eq_true_eq]; rfl)
theorem s34_50 {a0 a1 a2 a3 : Option Value} {x : Int32} : runv 34 50 (a0 :: a1 :: a2 :: a3 :: some (.int x) :: ls) st h = runv 34 52 (a0 :: a1 :: a2 :: a3 :: some (.int x) :: ls) (.int x :: st) h := runv_plain (x := (.iload 4, 2, 0, 0)) rfl rfl
theorem s34_52 {x : Nat} : runv 34 52 (some (.ref x) :: ls) st h = runv 34 53 (some (.ref x) :: ls) (.ref x :: st) h := runv_plain (x := (.aload_n 0, 1, 0, 0)) rfl rfl
theorem s34_53 {a : Nat} : runv 34 53 ls (.ref a :: st) h = vgf h a 9 4 fun v => runv 34 56 ls (v :: st) h := runv_get (show vcode 34 53 = some (.getfield 19, 3, 9, 4) from rfl)
theorem s34_56 {a0 : Option Value} {x : Int32} : runv 34 56 (a0 :: some (.int x) :: ls) st h = runv 34 57 (a0 :: some (.int x) :: ls) (.int x :: st) h := runv_plain (x := (.iload_n 1, 1, 0, 0)) rfl rfl
theorem s34_57 {a : Nat} {i : Int32} : runv 34 57 ls (.int i :: .ref a :: st) h = vld2 h a (fun t => t == 100 || t == 104) i fun v => runv 34 58 ls (v :: st) h := runv_iald (show vcode 34 57 = some (.iaload, 1, 0, 0) from rfl)
theorem s34_58 {x y : Int32} : runv 34 58 ls (.int y :: .int x :: st) h = if y ≤ x then runv 34 88 ls st h else runv 34 61 ls st h := (runv_icmp (show vcode 34 58 = some (.if_icmp .ge (30), 3, 0, 0) from rfl) (by decide)).trans (by simp only [vcmp, decide_eq_true_eq]; rfl)
theorem s34_61 {x : Nat} : runv 34 61 (some (.ref x) :: ls) st h = runv 34 62 (some (.ref x) :: ls) (.ref x :: st) h := runv_plain (x := (.aload_n 0, 1, 0, 0)) rfl rfl
theorem s34_62 {a : Nat} : runv 34 62 ls (.ref a :: st) h = vgf h a 9 5 fun v => runv 34 65 ls (v :: st) h := runv_get (show vcode 34 62 = some (.getfield 22, 3, 9, 5) from rfl)
theorem s34_65 : runv 34 65 ls st h = runv 34 67 ls (.int 24 :: st) h := runv_plain (x := (.bipush (24), 2, 0, 0)) rfl rfl
theorem s34_67 {a0 : Option Value} {x : Int32} : runv 34 67 (a0 :: some (.int x) :: ls) st h = runv 34 68 (a0 :: some (.int x) :: ls) (.int x :: st) h := runv_plain (x := (.iload_n 1, 1, 0, 0)) rfl rfl
theorem s34_68 {x y : Int32} : runv 34 68 ls (.int y :: .int x :: st) h = runv 34 69 ls (.int (x * y) :: st) h := runv_plain (x := (.imul, 1, 0, 0)) rfl rfl
theorem s34_69 {a0 a1 a2 a3 : Option Value} {x : Int32} : runv 34 69 (a0 :: a1 :: a2 :: a3 :: some (.int x) :: ls) st h = runv 34 71 (a0 :: a1 :: a2 :: a3 :: some (.int x) :: ls) (.int x :: st) h := runv_plain (x := (.iload 4, 2, 0, 0)) rfl rfl
theorem s34_71 {x y : Int32} : runv 34 71 ls (.int y :: .int x :: st) h = runv 34 72 ls (.int (x + y) :: st) h := runv_plain (x := (.iadd, 1, 0, 0)) rfl rfl
theorem s34_72 {a : Nat} {i : Int32} : runv 34 72 ls (.int i :: .ref a :: st) h = vld2 h a (fun t => t == 100 || t == 104) i fun v => runv 34 73 ls (v :: st) h := runv_iald (show vcode 34 72 = some (.iaload, 1, 0, 0) from rfl)
theorem s34_73 {x : Nat} : runv 34 73 (some (.ref x) :: ls) st h = runv 34 74 (some (.ref x) :: ls) (.ref x :: st) h := runv_plain (x := (.aload_n 0, 1, 0, 0)) rfl rfl
theorem s34_74 {a : Nat} : runv 34 74 ls (.ref a :: st) h = vgf h a 9 5 fun v => runv 34 77 ls (v :: st) h := runv_get (show vcode 34 74 = some (.getfield 22, 3, 9, 5) from rfl)
theorem s34_77 : runv 34 77 ls st h = runv 34 79 ls (.int 24 :: st) h := runv_plain (x := (.bipush (24), 2, 0, 0)) rfl rfl
theorem s34_79 {a0 a1 : Option Value} {x : Int32} : runv 34 79 (a0 :: a1 :: some (.int x) :: ls) st h = runv 34 80 (a0 :: a1 :: some (.int x) :: ls) (.int x :: st) h := runv_plain (x := (.iload_n 2, 1, 0, 0)) rfl rfl
theorem s34_80 {x y : Int32} : runv 34 80 ls (.int y :: .int x :: st) h = runv 34 81 ls (.int (x * y) :: st) h := runv_plain (x := (.imul, 1, 0, 0)) rfl rfl
theorem s34_81 {a0 a1 a2 a3 : Option Value} {x : Int32} : runv 34 81 (a0 :: a1 :: a2 :: a3 :: some (.int x) :: ls) st h = runv 34 83 (a0 :: a1 :: a2 :: a3 :: some (.int x) :: ls) (.int x :: st) h := runv_plain (x := (.iload 4, 2, 0, 0)) rfl rfl
theorem s34_83 {x y : Int32} : runv 34 83 ls (.int y :: .int x :: st) h = runv 34 84 ls (.int (x + y) :: st) h := runv_plain (x := (.iadd, 1, 0, 0)) rfl rfl
theorem s34_84 {a : Nat} {i : Int32} : runv 34 84 ls (.int i :: .ref a :: st) h = vld2 h a (fun t => t == 100 || t == 104) i fun v => runv 34 85 ls (v :: st) h := runv_iald (show vcode 34 84 = some (.iaload, 1, 0, 0) from rfl)
theorem s34_85 {x y : Int32} : runv 34 85 ls (.int y :: .int x :: st) h = if x = y then runv 34 88 ls st h else runv 34 92 ls st h := (runv_icmp (show vcode 34 85 = some (.if_icmp .ne (7), 3, 0, 0) from rfl) (by decide)).trans (by simp only [vcmp, decide_eq_true_eq, ite_not]; rfl)
theorem s34_88 : runv 34 88 ls st h = runv 34 89 ls (.int 1 :: st) h := runv_plain (x := (.iconst 1, 1, 0, 0)) rfl rfl
theorem s34_89 : runv 34 89 ls st h = runv 34 93 ls st h := runv_plain (x := (.goto (4), 3, 0, 0)) rfl rfl
theorem s34_92 : runv 34 92 ls st h = runv 34 93 ls (.int 0 :: st) h := runv_plain (x := (.iconst 0, 1, 0, 0)) rfl rfl
theorem s34_93 {a0 a1 a2 a3 : Option Value} {x : Int32} : runv 34 93 (a0 :: a1 :: a2 :: a3 :: ls) (.int x :: st) h = runv 34 94 (a0 :: a1 :: a2 :: some (.int x) :: ls) st h := (runv_plain (x := (.istore_n 3, 1, 0, 0)) rfl rfl).trans (by simp only [vstep, List.length_cons, show ∀ n : Nat, 3 < n + 4 from fun n => by omega, if_true]; rfl)
theorem s34_94 {a0 a1 a2 a3 : Option Value} {x : Int32} : runv 34 94 (a0 :: a1 :: a2 :: a3 :: some (.int x) :: ls) st h = runv 34 97 (a0 :: a1 :: a2 :: a3 :: some (.int (x + 1)) :: ls) st h := runv_plain (x := (.iinc 4 (1), 3, 0, 0)) rfl rfl
theorem s34_97 : runv 34 97 ls st h = runv 34 39 ls st h := runv_plain (x := (.goto (-58), 3, 0, 0)) rfl rfl
theorem s34_100 {a0 a1 a2 : Option Value} {x : Int32} : runv 34 100 (a0 :: a1 :: a2 :: some (.int x) :: ls) st h = runv 34 101 (a0 :: a1 :: a2 :: some (.int x) :: ls) (.int x :: st) h := runv_plain (x := (.iload_n 3, 1, 0, 0)) rfl rfl
theorem s34_101 {v : Int32} (hv : v &&& 1 = v) : runv 34 101 ls [.int v] h = some (some (.int v), h) := runv_ret (show vcode 34 101 = some (.ireturn, 1, 0, 0) from rfl) rfl (by simp only [vretv, show vret 34 = some .boolean from rfl, if_pos hv])
theorem s35_0 {x : Nat} : runv 35 0 (some (.ref x) :: ls) st h = runv 35 1 (some (.ref x) :: ls) (.ref x :: st) h := runv_plain (x := (.aload_n 0, 1, 0, 0)) rfl rfl
theorem s35_1 {a : Nat} : runv 35 1 ls (.ref a :: st) h = vgf h a 9 4 fun v => runv 35 4 ls (v :: st) h := runv_get (show vcode 35 1 = some (.getfield 19, 3, 9, 4) from rfl)
theorem s35_4 {a0 : Option Value} {x : Int32} : runv 35 4 (a0 :: some (.int x) :: ls) st h = runv 35 5 (a0 :: some (.int x) :: ls) (.int x :: st) h := runv_plain (x := (.iload_n 1, 1, 0, 0)) rfl rfl
theorem s35_5 {a : Nat} {i : Int32} : runv 35 5 ls (.int i :: .ref a :: st) h = vld2 h a (fun t => t == 100 || t == 104) i fun v => runv 35 6 ls (v :: st) h := runv_iald (show vcode 35 5 = some (.iaload, 1, 0, 0) from rfl)
theorem s35_6 {a0 a1 a2 : Option Value} {x : Int32} : runv 35 6 (a0 :: a1 :: a2 :: ls) (.int x :: st) h = runv 35 7 (a0 :: a1 :: some (.int x) :: ls) st h := (runv_plain (x := (.istore_n 2, 1, 0, 0)) rfl rfl).trans (by simp only [vstep, List.length_cons, show ∀ n : Nat, 2 < n + 3 from fun n => by omega, if_true]; rfl)
theorem s35_7 {x : Nat} : runv 35 7 (some (.ref x) :: ls) st h = runv 35 8 (some (.ref x) :: ls) (.ref x :: st) h := runv_plain (x := (.aload_n 0, 1, 0, 0)) rfl rfl
theorem s35_8 {a : Nat} : runv 35 8 ls (.ref a :: st) h = vgf h a 9 3 fun v => runv 35 11 ls (v :: st) h := runv_get (show vcode 35 8 = some (.getfield 16, 3, 9, 3) from rfl)
theorem s35_11 {a0 : Option Value} {x : Int32} : runv 35 11 (a0 :: some (.int x) :: ls) st h = runv 35 12 (a0 :: some (.int x) :: ls) (.int x :: st) h := runv_plain (x := (.iload_n 1, 1, 0, 0)) rfl rfl
theorem s35_12 {a : Nat} {i : Int32} : runv 35 12 ls (.int i :: .ref a :: st) h = vld2 h a (fun t => t == 100 || t == 104) i fun v => runv 35 13 ls (v :: st) h := runv_iald (show vcode 35 12 = some (.iaload, 1, 0, 0) from rfl)
theorem s35_13 : runv 35 13 ls st h = runv 35 14 ls (.int 1 :: st) h := runv_plain (x := (.iconst 1, 1, 0, 0)) rfl rfl
theorem s35_14 {x y : Int32} : runv 35 14 ls (.int y :: .int x :: st) h = if x = y then runv 35 17 ls st h else runv 35 39 ls st h := (runv_icmp (show vcode 35 14 = some (.if_icmp .ne (25), 3, 0, 0) from rfl) (by decide)).trans (by simp only [vcmp, decide_eq_true_eq, ite_not]; rfl)
theorem s35_17 {a0 a1 : Option Value} {x : Int32} : runv 35 17 (a0 :: a1 :: some (.int x) :: ls) st h = runv 35 18 (a0 :: a1 :: some (.int x) :: ls) (.int x :: st) h := runv_plain (x := (.iload_n 2, 1, 0, 0)) rfl rfl
theorem s35_18 : runv 35 18 ls st h = runv 35 19 ls (.int 3 :: st) h := runv_plain (x := (.iconst 3, 1, 0, 0)) rfl rfl
theorem s35_19 {x y : Int32} : runv 35 19 ls (.int y :: .int x :: st) h = if x = y then runv 35 33 ls st h else runv 35 22 ls st h := (runv_icmp (show vcode 35 19 = some (.if_icmp .eq (14), 3, 0, 0) from rfl) (by decide)).trans (by simp only [vcmp, decide_eq_true_eq]; rfl)
theorem s35_22 {a0 a1 : Option Value} {x : Int32} : runv 35 22 (a0 :: a1 :: some (.int x) :: ls) st h = runv 35 23 (a0 :: a1 :: some (.int x) :: ls) (.int x :: st) h := runv_plain (x := (.iload_n 2, 1, 0, 0)) rfl rfl
theorem s35_23 : runv 35 23 ls st h = runv 35 24 ls (.int 5 :: st) h := runv_plain (x := (.iconst 5, 1, 0, 0)) rfl rfl
theorem s35_24 {x y : Int32} : runv 35 24 ls (.int y :: .int x :: st) h = if x = y then runv 35 33 ls st h else runv 35 27 ls st h := (runv_icmp (show vcode 35 24 = some (.if_icmp .eq (9), 3, 0, 0) from rfl) (by decide)).trans (by simp only [vcmp, decide_eq_true_eq]; rfl)
theorem s35_27 {a0 a1 : Option Value} {x : Int32} : runv 35 27 (a0 :: a1 :: some (.int x) :: ls) st h = runv 35 28 (a0 :: a1 :: some (.int x) :: ls) (.int x :: st) h := runv_plain (x := (.iload_n 2, 1, 0, 0)) rfl rfl
theorem s35_28 : runv 35 28 ls st h = runv 35 30 ls (.int 7 :: st) h := runv_plain (x := (.bipush (7), 2, 0, 0)) rfl rfl
theorem s35_30 {x y : Int32} : runv 35 30 ls (.int y :: .int x :: st) h = if x = y then runv 35 33 ls st h else runv 35 37 ls st h := (runv_icmp (show vcode 35 30 = some (.if_icmp .ne (7), 3, 0, 0) from rfl) (by decide)).trans (by simp only [vcmp, decide_eq_true_eq, ite_not]; rfl)
theorem s35_33 : runv 35 33 ls st h = runv 35 34 ls (.int 1 :: st) h := runv_plain (x := (.iconst 1, 1, 0, 0)) rfl rfl
theorem s35_34 : runv 35 34 ls st h = runv 35 38 ls st h := runv_plain (x := (.goto (4), 3, 0, 0)) rfl rfl
theorem s35_37 : runv 35 37 ls st h = runv 35 38 ls (.int 0 :: st) h := runv_plain (x := (.iconst 0, 1, 0, 0)) rfl rfl
theorem s35_38 {v : Int32} (hv : v &&& 1 = v) : runv 35 38 ls [.int v] h = some (some (.int v), h) := runv_ret (show vcode 35 38 = some (.ireturn, 1, 0, 0) from rfl) rfl (by simp only [vretv, show vret 35 = some .boolean from rfl, if_pos hv])
theorem s35_39 {x : Nat} : runv 35 39 (some (.ref x) :: ls) st h = runv 35 40 (some (.ref x) :: ls) (.ref x :: st) h := runv_plain (x := (.aload_n 0, 1, 0, 0)) rfl rfl
theorem s35_40 {a : Nat} : runv 35 40 ls (.ref a :: st) h = vgf h a 9 3 fun v => runv 35 43 ls (v :: st) h := runv_get (show vcode 35 40 = some (.getfield 16, 3, 9, 3) from rfl)
theorem s35_43 {a0 : Option Value} {x : Int32} : runv 35 43 (a0 :: some (.int x) :: ls) st h = runv 35 44 (a0 :: some (.int x) :: ls) (.int x :: st) h := runv_plain (x := (.iload_n 1, 1, 0, 0)) rfl rfl
theorem s35_44 {a : Nat} {i : Int32} : runv 35 44 ls (.int i :: .ref a :: st) h = vld2 h a (fun t => t == 100 || t == 104) i fun v => runv 35 45 ls (v :: st) h := runv_iald (show vcode 35 44 = some (.iaload, 1, 0, 0) from rfl)
theorem s35_45 : runv 35 45 ls st h = runv 35 46 ls (.int 3 :: st) h := runv_plain (x := (.iconst 3, 1, 0, 0)) rfl rfl
theorem s35_46 {x y : Int32} : runv 35 46 ls (.int y :: .int x :: st) h = if x = y then runv 35 55 ls st h else runv 35 49 ls st h := (runv_icmp (show vcode 35 46 = some (.if_icmp .eq (9), 3, 0, 0) from rfl) (by decide)).trans (by simp only [vcmp, decide_eq_true_eq]; rfl)
theorem s35_49 {a0 a1 : Option Value} {x : Int32} : runv 35 49 (a0 :: a1 :: some (.int x) :: ls) st h = runv 35 50 (a0 :: a1 :: some (.int x) :: ls) (.int x :: st) h := runv_plain (x := (.iload_n 2, 1, 0, 0)) rfl rfl
theorem s35_50 : runv 35 50 ls st h = runv 35 51 ls (.int 3 :: st) h := runv_plain (x := (.iconst 3, 1, 0, 0)) rfl rfl
theorem s35_51 {x y : Int32} (hy : ¬ y = 0) : runv 35 51 ls (.int y :: .int x :: st) h = runv 35 52 ls (.int (x - x / y * y) :: st) h := runv_rem (show vcode 35 51 = some (.irem, 1, 0, 0) from rfl) hy
theorem s35_52 {x : Int32} : runv 35 52 ls (.int x :: st) h = if x = 0 then runv 35 55 ls st h else runv 35 59 ls st h := (runv_if (show vcode 35 52 = some (.ifCond .ne (7), 3, 0, 0) from rfl) (by decide)).trans (by simp only [vcmp, decide_eq_true_eq, ite_not]; rfl)
theorem s35_55 : runv 35 55 ls st h = runv 35 56 ls (.int 1 :: st) h := runv_plain (x := (.iconst 1, 1, 0, 0)) rfl rfl
theorem s35_56 : runv 35 56 ls st h = runv 35 60 ls st h := runv_plain (x := (.goto (4), 3, 0, 0)) rfl rfl
theorem s35_59 : runv 35 59 ls st h = runv 35 60 ls (.int 0 :: st) h := runv_plain (x := (.iconst 0, 1, 0, 0)) rfl rfl
theorem s35_60 {a0 a1 a2 a3 : Option Value} {x : Int32} : runv 35 60 (a0 :: a1 :: a2 :: a3 :: ls) (.int x :: st) h = runv 35 61 (a0 :: a1 :: a2 :: some (.int x) :: ls) st h := (runv_plain (x := (.istore_n 3, 1, 0, 0)) rfl rfl).trans (by simp only [vstep, List.length_cons, show ∀ n : Nat, 3 < n + 4 from fun n => by omega, if_true]; rfl)
theorem s35_61 : runv 35 61 ls st h = runv 35 62 ls (.int 3 :: st) h := runv_plain (x := (.iconst 3, 1, 0, 0)) rfl rfl
theorem s35_62 {a0 a1 a2 a3 a4 : Option Value} {x : Int32} : runv 35 62 (a0 :: a1 :: a2 :: a3 :: a4 :: ls) (.int x :: st) h = runv 35 64 (a0 :: a1 :: a2 :: a3 :: some (.int x) :: ls) st h := (runv_plain (x := (.istore 4, 2, 0, 0)) rfl rfl).trans (by simp only [vstep, List.length_cons, show ∀ n : Nat, 4 < n + 5 from fun n => by omega, if_true]; rfl)
theorem s35_64 {a0 a1 a2 a3 : Option Value} {x : Int32} : runv 35 64 (a0 :: a1 :: a2 :: a3 :: some (.int x) :: ls) st h = runv 35 66 (a0 :: a1 :: a2 :: a3 :: some (.int x) :: ls) (.int x :: st) h := runv_plain (x := (.iload 4, 2, 0, 0)) rfl rfl
theorem s35_66 {a0 a1 : Option Value} {x : Int32} : runv 35 66 (a0 :: a1 :: some (.int x) :: ls) st h = runv 35 67 (a0 :: a1 :: some (.int x) :: ls) (.int x :: st) h := runv_plain (x := (.iload_n 2, 1, 0, 0)) rfl rfl
theorem s35_67 {x y : Int32} : runv 35 67 ls (.int y :: .int x :: st) h = if y ≤ x then runv 35 125 ls st h else runv 35 70 ls st h := (runv_icmp (show vcode 35 67 = some (.if_icmp .ge (58), 3, 0, 0) from rfl) (by decide)).trans (by simp only [vcmp, decide_eq_true_eq]; rfl)
theorem s35_70 {x : Nat} : runv 35 70 (some (.ref x) :: ls) st h = runv 35 71 (some (.ref x) :: ls) (.ref x :: st) h := runv_plain (x := (.aload_n 0, 1, 0, 0)) rfl rfl
theorem s35_71 {a : Nat} : runv 35 71 ls (.ref a :: st) h = vgf h a 9 3 fun v => runv 35 74 ls (v :: st) h := runv_get (show vcode 35 71 = some (.getfield 16, 3, 9, 3) from rfl)
theorem s35_74 {a0 : Option Value} {x : Int32} : runv 35 74 (a0 :: some (.int x) :: ls) st h = runv 35 75 (a0 :: some (.int x) :: ls) (.int x :: st) h := runv_plain (x := (.iload_n 1, 1, 0, 0)) rfl rfl
theorem s35_75 {a : Nat} {i : Int32} : runv 35 75 ls (.int i :: .ref a :: st) h = vld2 h a (fun t => t == 100 || t == 104) i fun v => runv 35 76 ls (v :: st) h := runv_iald (show vcode 35 75 = some (.iaload, 1, 0, 0) from rfl)
theorem s35_76 : runv 35 76 ls st h = runv 35 77 ls (.int 2 :: st) h := runv_plain (x := (.iconst 2, 1, 0, 0)) rfl rfl
theorem s35_77 {x y : Int32} : runv 35 77 ls (.int y :: .int x :: st) h = if x = y then runv 35 80 ls st h else runv 35 125 ls st h := (runv_icmp (show vcode 35 77 = some (.if_icmp .ne (48), 3, 0, 0) from rfl) (by decide)).trans (by simp only [vcmp, decide_eq_true_eq, ite_not]; rfl)
theorem s35_80 {a0 a1 a2 : Option Value} {x : Int32} : runv 35 80 (a0 :: a1 :: a2 :: some (.int x) :: ls) st h = runv 35 81 (a0 :: a1 :: a2 :: some (.int x) :: ls) (.int x :: st) h := runv_plain (x := (.iload_n 3, 1, 0, 0)) rfl rfl
theorem s35_81 {x : Int32} : runv 35 81 ls (.int x :: st) h = if x = 0 then runv 35 117 ls st h else runv 35 84 ls st h := (runv_if (show vcode 35 81 = some (.ifCond .eq (36), 3, 0, 0) from rfl) (by decide)).trans (by simp only [vcmp, decide_eq_true_eq]; rfl)
theorem s35_84 {x : Nat} : runv 35 84 (some (.ref x) :: ls) st h = runv 35 85 (some (.ref x) :: ls) (.ref x :: st) h := runv_plain (x := (.aload_n 0, 1, 0, 0)) rfl rfl
theorem s35_85 {a : Nat} : runv 35 85 ls (.ref a :: st) h = vgf h a 9 5 fun v => runv 35 88 ls (v :: st) h := runv_get (show vcode 35 85 = some (.getfield 22, 3, 9, 5) from rfl)
theorem s35_88 : runv 35 88 ls st h = runv 35 90 ls (.int 24 :: st) h := runv_plain (x := (.bipush (24), 2, 0, 0)) rfl rfl
theorem s35_90 {a0 : Option Value} {x : Int32} : runv 35 90 (a0 :: some (.int x) :: ls) st h = runv 35 91 (a0 :: some (.int x) :: ls) (.int x :: st) h := runv_plain (x := (.iload_n 1, 1, 0, 0)) rfl rfl
theorem s35_91 {x y : Int32} : runv 35 91 ls (.int y :: .int x :: st) h = runv 35 92 ls (.int (x * y) :: st) h := runv_plain (x := (.imul, 1, 0, 0)) rfl rfl
theorem s35_92 {a0 a1 a2 a3 : Option Value} {x : Int32} : runv 35 92 (a0 :: a1 :: a2 :: a3 :: some (.int x) :: ls) st h = runv 35 94 (a0 :: a1 :: a2 :: a3 :: some (.int x) :: ls) (.int x :: st) h := runv_plain (x := (.iload 4, 2, 0, 0)) rfl rfl
theorem s35_94 {x y : Int32} : runv 35 94 ls (.int y :: .int x :: st) h = runv 35 95 ls (.int (x + y) :: st) h := runv_plain (x := (.iadd, 1, 0, 0)) rfl rfl
theorem s35_95 {a : Nat} {i : Int32} : runv 35 95 ls (.int i :: .ref a :: st) h = vld2 h a (fun t => t == 100 || t == 104) i fun v => runv 35 96 ls (v :: st) h := runv_iald (show vcode 35 95 = some (.iaload, 1, 0, 0) from rfl)
theorem s35_96 {x : Nat} : runv 35 96 (some (.ref x) :: ls) st h = runv 35 97 (some (.ref x) :: ls) (.ref x :: st) h := runv_plain (x := (.aload_n 0, 1, 0, 0)) rfl rfl
theorem s35_97 {a : Nat} : runv 35 97 ls (.ref a :: st) h = vgf h a 9 5 fun v => runv 35 100 ls (v :: st) h := runv_get (show vcode 35 97 = some (.getfield 22, 3, 9, 5) from rfl)
theorem s35_100 : runv 35 100 ls st h = runv 35 102 ls (.int 24 :: st) h := runv_plain (x := (.bipush (24), 2, 0, 0)) rfl rfl
theorem s35_102 {a0 : Option Value} {x : Int32} : runv 35 102 (a0 :: some (.int x) :: ls) st h = runv 35 103 (a0 :: some (.int x) :: ls) (.int x :: st) h := runv_plain (x := (.iload_n 1, 1, 0, 0)) rfl rfl
theorem s35_103 {x y : Int32} : runv 35 103 ls (.int y :: .int x :: st) h = runv 35 104 ls (.int (x * y) :: st) h := runv_plain (x := (.imul, 1, 0, 0)) rfl rfl
theorem s35_104 {a0 a1 a2 a3 : Option Value} {x : Int32} : runv 35 104 (a0 :: a1 :: a2 :: a3 :: some (.int x) :: ls) st h = runv 35 106 (a0 :: a1 :: a2 :: a3 :: some (.int x) :: ls) (.int x :: st) h := runv_plain (x := (.iload 4, 2, 0, 0)) rfl rfl
theorem s35_106 {x y : Int32} : runv 35 106 ls (.int y :: .int x :: st) h = runv 35 107 ls (.int (x + y) :: st) h := runv_plain (x := (.iadd, 1, 0, 0)) rfl rfl
theorem s35_107 : runv 35 107 ls st h = runv 35 108 ls (.int 3 :: st) h := runv_plain (x := (.iconst 3, 1, 0, 0)) rfl rfl
theorem s35_108 {x y : Int32} : runv 35 108 ls (.int y :: .int x :: st) h = runv 35 109 ls (.int (x - y) :: st) h := runv_plain (x := (.isub, 1, 0, 0)) rfl rfl
theorem s35_109 {a : Nat} {i : Int32} : runv 35 109 ls (.int i :: .ref a :: st) h = vld2 h a (fun t => t == 100 || t == 104) i fun v => runv 35 110 ls (v :: st) h := runv_iald (show vcode 35 109 = some (.iaload, 1, 0, 0) from rfl)
theorem s35_110 {x y : Int32} : runv 35 110 ls (.int y :: .int x :: st) h = if x ≤ y then runv 35 117 ls st h else runv 35 113 ls st h := (runv_icmp (show vcode 35 110 = some (.if_icmp .le (7), 3, 0, 0) from rfl) (by decide)).trans (by simp only [vcmp, decide_eq_true_eq]; rfl)
theorem s35_113 : runv 35 113 ls st h = runv 35 114 ls (.int 1 :: st) h := runv_plain (x := (.iconst 1, 1, 0, 0)) rfl rfl
theorem s35_114 : runv 35 114 ls st h = runv 35 118 ls st h := runv_plain (x := (.goto (4), 3, 0, 0)) rfl rfl
theorem s35_117 : runv 35 117 ls st h = runv 35 118 ls (.int 0 :: st) h := runv_plain (x := (.iconst 0, 1, 0, 0)) rfl rfl
theorem s35_118 {a0 a1 a2 a3 : Option Value} {x : Int32} : runv 35 118 (a0 :: a1 :: a2 :: a3 :: ls) (.int x :: st) h = runv 35 119 (a0 :: a1 :: a2 :: some (.int x) :: ls) st h := (runv_plain (x := (.istore_n 3, 1, 0, 0)) rfl rfl).trans (by simp only [vstep, List.length_cons, show ∀ n : Nat, 3 < n + 4 from fun n => by omega, if_true]; rfl)
theorem s35_119 {a0 a1 a2 a3 : Option Value} {x : Int32} : runv 35 119 (a0 :: a1 :: a2 :: a3 :: some (.int x) :: ls) st h = runv 35 122 (a0 :: a1 :: a2 :: a3 :: some (.int (x + 3)) :: ls) st h := runv_plain (x := (.iinc 4 (3), 3, 0, 0)) rfl rfl
theorem s35_122 : runv 35 122 ls st h = runv 35 64 ls st h := runv_plain (x := (.goto (-58), 3, 0, 0)) rfl rfl
theorem s35_125 {a0 a1 a2 : Option Value} {x : Int32} : runv 35 125 (a0 :: a1 :: a2 :: some (.int x) :: ls) st h = runv 35 126 (a0 :: a1 :: a2 :: some (.int x) :: ls) (.int x :: st) h := runv_plain (x := (.iload_n 3, 1, 0, 0)) rfl rfl
theorem s35_126 {v : Int32} (hv : v &&& 1 = v) : runv 35 126 ls [.int v] h = some (some (.int v), h) := runv_ret (show vcode 35 126 = some (.ireturn, 1, 0, 0) from rfl) rfl (by simp only [vretv, show vret 35 = some .boolean from rfl, if_pos hv])
theorem s36_0 {x : Nat} : runv 36 0 (some (.ref x) :: ls) st h = runv 36 1 (some (.ref x) :: ls) (.ref x :: st) h := runv_plain (x := (.aload_n 0, 1, 0, 0)) rfl rfl
theorem s36_1 {a : Nat} : runv 36 1 ls (.ref a :: st) h = vgf h a 9 3 fun v => runv 36 4 ls (v :: st) h := runv_get (show vcode 36 1 = some (.getfield 16, 3, 9, 3) from rfl)
theorem s36_4 {a0 : Option Value} {x : Int32} : runv 36 4 (a0 :: some (.int x) :: ls) st h = runv 36 5 (a0 :: some (.int x) :: ls) (.int x :: st) h := runv_plain (x := (.iload_n 1, 1, 0, 0)) rfl rfl
theorem s36_5 {a : Nat} {i : Int32} : runv 36 5 ls (.int i :: .ref a :: st) h = vld2 h a (fun t => t == 100 || t == 104) i fun v => runv 36 6 ls (v :: st) h := runv_iald (show vcode 36 5 = some (.iaload, 1, 0, 0) from rfl)
theorem s36_6 : runv 36 6 ls st h = runv 36 7 ls (.int 1 :: st) h := runv_plain (x := (.iconst 1, 1, 0, 0)) rfl rfl
theorem s36_7 {x y : Int32} : runv 36 7 ls (.int y :: .int x :: st) h = if x = y then runv 36 10 ls st h else runv 36 21 ls st h := (runv_icmp (show vcode 36 7 = some (.if_icmp .ne (14), 3, 0, 0) from rfl) (by decide)).trans (by simp only [vcmp, decide_eq_true_eq, ite_not]; rfl)
theorem s36_10 {x : Nat} : runv 36 10 (some (.ref x) :: ls) st h = runv 36 11 (some (.ref x) :: ls) (.ref x :: st) h := runv_plain (x := (.aload_n 0, 1, 0, 0)) rfl rfl
theorem s36_11 {a : Nat} : runv 36 11 ls (.ref a :: st) h = vgf h a 9 4 fun v => runv 36 14 ls (v :: st) h := runv_get (show vcode 36 11 = some (.getfield 19, 3, 9, 4) from rfl)
theorem s36_14 {a0 : Option Value} {x : Int32} : runv 36 14 (a0 :: some (.int x) :: ls) st h = runv 36 15 (a0 :: some (.int x) :: ls) (.int x :: st) h := runv_plain (x := (.iload_n 1, 1, 0, 0)) rfl rfl
theorem s36_15 {a : Nat} {i : Int32} : runv 36 15 ls (.int i :: .ref a :: st) h = vld2 h a (fun t => t == 100 || t == 104) i fun v => runv 36 16 ls (v :: st) h := runv_iald (show vcode 36 15 = some (.iaload, 1, 0, 0) from rfl)
theorem s36_16 : runv 36 16 ls st h = runv 36 17 ls (.int 2 :: st) h := runv_plain (x := (.iconst 2, 1, 0, 0)) rfl rfl
theorem s36_17 {x y : Int32} (hy : ¬ y = 0) : runv 36 17 ls (.int y :: .int x :: st) h = runv 36 18 ls (.int (x / y) :: st) h := runv_div (show vcode 36 17 = some (.idiv, 1, 0, 0) from rfl) hy
theorem s36_18 : runv 36 18 ls st h = runv 36 43 ls st h := runv_plain (x := (.goto (25), 3, 0, 0)) rfl rfl
theorem s36_21 {x : Nat} : runv 36 21 (some (.ref x) :: ls) st h = runv 36 22 (some (.ref x) :: ls) (.ref x :: st) h := runv_plain (x := (.aload_n 0, 1, 0, 0)) rfl rfl
theorem s36_22 {a : Nat} : runv 36 22 ls (.ref a :: st) h = vgf h a 9 3 fun v => runv 36 25 ls (v :: st) h := runv_get (show vcode 36 22 = some (.getfield 16, 3, 9, 3) from rfl)
theorem s36_25 {a0 : Option Value} {x : Int32} : runv 36 25 (a0 :: some (.int x) :: ls) st h = runv 36 26 (a0 :: some (.int x) :: ls) (.int x :: st) h := runv_plain (x := (.iload_n 1, 1, 0, 0)) rfl rfl
theorem s36_26 {a : Nat} {i : Int32} : runv 36 26 ls (.int i :: .ref a :: st) h = vld2 h a (fun t => t == 100 || t == 104) i fun v => runv 36 27 ls (v :: st) h := runv_iald (show vcode 36 26 = some (.iaload, 1, 0, 0) from rfl)
theorem s36_27 : runv 36 27 ls st h = runv 36 28 ls (.int 2 :: st) h := runv_plain (x := (.iconst 2, 1, 0, 0)) rfl rfl
theorem s36_28 {x y : Int32} : runv 36 28 ls (.int y :: .int x :: st) h = if x = y then runv 36 31 ls st h else runv 36 42 ls st h := (runv_icmp (show vcode 36 28 = some (.if_icmp .ne (14), 3, 0, 0) from rfl) (by decide)).trans (by simp only [vcmp, decide_eq_true_eq, ite_not]; rfl)
theorem s36_31 {x : Nat} : runv 36 31 (some (.ref x) :: ls) st h = runv 36 32 (some (.ref x) :: ls) (.ref x :: st) h := runv_plain (x := (.aload_n 0, 1, 0, 0)) rfl rfl
theorem s36_32 {a : Nat} : runv 36 32 ls (.ref a :: st) h = vgf h a 9 4 fun v => runv 36 35 ls (v :: st) h := runv_get (show vcode 36 32 = some (.getfield 19, 3, 9, 4) from rfl)
theorem s36_35 {a0 : Option Value} {x : Int32} : runv 36 35 (a0 :: some (.int x) :: ls) st h = runv 36 36 (a0 :: some (.int x) :: ls) (.int x :: st) h := runv_plain (x := (.iload_n 1, 1, 0, 0)) rfl rfl
theorem s36_36 {a : Nat} {i : Int32} : runv 36 36 ls (.int i :: .ref a :: st) h = vld2 h a (fun t => t == 100 || t == 104) i fun v => runv 36 37 ls (v :: st) h := runv_iald (show vcode 36 36 = some (.iaload, 1, 0, 0) from rfl)
theorem s36_37 : runv 36 37 ls st h = runv 36 38 ls (.int 3 :: st) h := runv_plain (x := (.iconst 3, 1, 0, 0)) rfl rfl
theorem s36_38 {x y : Int32} (hy : ¬ y = 0) : runv 36 38 ls (.int y :: .int x :: st) h = runv 36 39 ls (.int (x / y) :: st) h := runv_div (show vcode 36 38 = some (.idiv, 1, 0, 0) from rfl) hy
theorem s36_39 : runv 36 39 ls st h = runv 36 43 ls st h := runv_plain (x := (.goto (4), 3, 0, 0)) rfl rfl
theorem s36_42 : runv 36 42 ls st h = runv 36 43 ls (.int 0 :: st) h := runv_plain (x := (.iconst 0, 1, 0, 0)) rfl rfl
theorem s36_43 {v : Int32} : runv 36 43 ls [.int v] h = some (some (.int v), h) := runv_ret (show vcode 36 43 = some (.ireturn, 1, 0, 0) from rfl) rfl rfl
theorem s37_0 : runv 37 0 ls st h = runv 37 2 ls (.int 24 :: st) h := runv_plain (x := (.bipush (24), 2, 0, 0)) rfl rfl
theorem s37_2 {a0 a1 : Option Value} {x : Int32} : runv 37 2 (a0 :: a1 :: some (.int x) :: ls) st h = runv 37 3 (a0 :: a1 :: some (.int x) :: ls) (.int x :: st) h := runv_plain (x := (.iload_n 2, 1, 0, 0)) rfl rfl
theorem s37_3 {x y : Int32} : runv 37 3 ls (.int y :: .int x :: st) h = runv 37 4 ls (.int (x * y) :: st) h := runv_plain (x := (.imul, 1, 0, 0)) rfl rfl
theorem s37_4 {x : Nat} : runv 37 4 (some (.ref x) :: ls) st h = runv 37 5 (some (.ref x) :: ls) (.ref x :: st) h := runv_plain (x := (.aload_n 0, 1, 0, 0)) rfl rfl
theorem s37_5 {a : Nat} : runv 37 5 ls (.ref a :: st) h = vgf h a 9 3 fun v => runv 37 8 ls (v :: st) h := runv_get (show vcode 37 5 = some (.getfield 16, 3, 9, 3) from rfl)
theorem s37_8 {a0 a1 : Option Value} {x : Int32} : runv 37 8 (a0 :: a1 :: some (.int x) :: ls) st h = runv 37 9 (a0 :: a1 :: some (.int x) :: ls) (.int x :: st) h := runv_plain (x := (.iload_n 2, 1, 0, 0)) rfl rfl
theorem s37_9 {a : Nat} {i : Int32} : runv 37 9 ls (.int i :: .ref a :: st) h = vld2 h a (fun t => t == 100 || t == 104) i fun v => runv 37 10 ls (v :: st) h := runv_iald (show vcode 37 9 = some (.iaload, 1, 0, 0) from rfl)
theorem s37_10 : runv 37 10 ls st h = runv 37 11 ls (.int 1 :: st) h := runv_plain (x := (.iconst 1, 1, 0, 0)) rfl rfl
theorem s37_11 {x y : Int32} : runv 37 11 ls (.int y :: .int x :: st) h = if x = y then runv 37 14 ls st h else runv 37 20 ls st h := (runv_icmp (show vcode 37 11 = some (.if_icmp .ne (9), 3, 0, 0) from rfl) (by decide)).trans (by simp only [vcmp, decide_eq_true_eq, ite_not]; rfl)
theorem s37_14 : runv 37 14 ls st h = runv 37 15 ls (.int 2 :: st) h := runv_plain (x := (.iconst 2, 1, 0, 0)) rfl rfl
theorem s37_15 {a0 a1 a2 : Option Value} {x : Int32} : runv 37 15 (a0 :: a1 :: a2 :: some (.int x) :: ls) st h = runv 37 16 (a0 :: a1 :: a2 :: some (.int x) :: ls) (.int x :: st) h := runv_plain (x := (.iload_n 3, 1, 0, 0)) rfl rfl
theorem s37_16 {x y : Int32} : runv 37 16 ls (.int y :: .int x :: st) h = runv 37 17 ls (.int (x * y) :: st) h := runv_plain (x := (.imul, 1, 0, 0)) rfl rfl
theorem s37_17 : runv 37 17 ls st h = runv 37 25 ls st h := runv_plain (x := (.goto (8), 3, 0, 0)) rfl rfl
theorem s37_20 : runv 37 20 ls st h = runv 37 21 ls (.int 3 :: st) h := runv_plain (x := (.iconst 3, 1, 0, 0)) rfl rfl
theorem s37_21 {a0 a1 a2 : Option Value} {x : Int32} : runv 37 21 (a0 :: a1 :: a2 :: some (.int x) :: ls) st h = runv 37 22 (a0 :: a1 :: a2 :: some (.int x) :: ls) (.int x :: st) h := runv_plain (x := (.iload_n 3, 1, 0, 0)) rfl rfl
theorem s37_22 {x y : Int32} : runv 37 22 ls (.int y :: .int x :: st) h = runv 37 23 ls (.int (x * y) :: st) h := runv_plain (x := (.imul, 1, 0, 0)) rfl rfl
theorem s37_23 : runv 37 23 ls st h = runv 37 24 ls (.int 1 :: st) h := runv_plain (x := (.iconst 1, 1, 0, 0)) rfl rfl
theorem s37_24 {x y : Int32} : runv 37 24 ls (.int y :: .int x :: st) h = runv 37 25 ls (.int (x + y) :: st) h := runv_plain (x := (.iadd, 1, 0, 0)) rfl rfl
theorem s37_25 {x y : Int32} : runv 37 25 ls (.int y :: .int x :: st) h = runv 37 26 ls (.int (x + y) :: st) h := runv_plain (x := (.iadd, 1, 0, 0)) rfl rfl
theorem s37_26 {a0 a1 a2 a3 a4 : Option Value} {x : Int32} : runv 37 26 (a0 :: a1 :: a2 :: a3 :: a4 :: ls) (.int x :: st) h = runv 37 28 (a0 :: a1 :: a2 :: a3 :: some (.int x) :: ls) st h := (runv_plain (x := (.istore 4, 2, 0, 0)) rfl rfl).trans (by simp only [vstep, List.length_cons, show ∀ n : Nat, 4 < n + 5 from fun n => by omega, if_true]; rfl)
theorem s37_28 {x : Nat} : runv 37 28 (some (.ref x) :: ls) st h = runv 37 29 (some (.ref x) :: ls) (.ref x :: st) h := runv_plain (x := (.aload_n 0, 1, 0, 0)) rfl rfl
theorem s37_29 {a0 : Option Value} {x : Int32} : runv 37 29 (a0 :: some (.int x) :: ls) st h = runv 37 30 (a0 :: some (.int x) :: ls) (.int x :: st) h := runv_plain (x := (.iload_n 1, 1, 0, 0)) rfl rfl
theorem s37_30 : runv 37 30 ls st h = runv 37 33 ls (.int 256 :: st) h := runv_plain (x := (.sipush (256), 3, 0, 0)) rfl rfl
theorem s37_33 {x : Nat} : runv 37 33 (some (.ref x) :: ls) st h = runv 37 34 (some (.ref x) :: ls) (.ref x :: st) h := runv_plain (x := (.aload_n 0, 1, 0, 0)) rfl rfl
theorem s37_34 {a : Nat} : runv 37 34 ls (.ref a :: st) h = vgf h a 9 5 fun v => runv 37 37 ls (v :: st) h := runv_get (show vcode 37 34 = some (.getfield 22, 3, 9, 5) from rfl)
theorem s37_37 {a0 a1 a2 a3 : Option Value} {x : Int32} : runv 37 37 (a0 :: a1 :: a2 :: a3 :: some (.int x) :: ls) st h = runv 37 39 (a0 :: a1 :: a2 :: a3 :: some (.int x) :: ls) (.int x :: st) h := runv_plain (x := (.iload 4, 2, 0, 0)) rfl rfl
theorem s37_39 {a : Nat} {i : Int32} : runv 37 39 ls (.int i :: .ref a :: st) h = vld2 h a (fun t => t == 100 || t == 104) i fun v => runv 37 40 ls (v :: st) h := runv_iald (show vcode 37 39 = some (.iaload, 1, 0, 0) from rfl)
theorem s37_40 {x y : Int32} : runv 37 40 ls (.int y :: .int x :: st) h = runv 37 41 ls (.int (x * y) :: st) h := runv_plain (x := (.imul, 1, 0, 0)) rfl rfl
theorem s37_41 {x : Nat} : runv 37 41 (some (.ref x) :: ls) st h = runv 37 42 (some (.ref x) :: ls) (.ref x :: st) h := runv_plain (x := (.aload_n 0, 1, 0, 0)) rfl rfl
theorem s37_42 {a : Nat} : runv 37 42 ls (.ref a :: st) h = vgf h a 9 5 fun v => runv 37 45 ls (v :: st) h := runv_get (show vcode 37 42 = some (.getfield 22, 3, 9, 5) from rfl)
theorem s37_45 {a0 a1 a2 a3 : Option Value} {x : Int32} : runv 37 45 (a0 :: a1 :: a2 :: a3 :: some (.int x) :: ls) st h = runv 37 47 (a0 :: a1 :: a2 :: a3 :: some (.int x) :: ls) (.int x :: st) h := runv_plain (x := (.iload 4, 2, 0, 0)) rfl rfl
theorem s37_47 : runv 37 47 ls st h = runv 37 48 ls (.int 1 :: st) h := runv_plain (x := (.iconst 1, 1, 0, 0)) rfl rfl
theorem s37_48 {x y : Int32} : runv 37 48 ls (.int y :: .int x :: st) h = runv 37 49 ls (.int (x + y) :: st) h := runv_plain (x := (.iadd, 1, 0, 0)) rfl rfl
theorem s37_49 {a : Nat} {i : Int32} : runv 37 49 ls (.int i :: .ref a :: st) h = vld2 h a (fun t => t == 100 || t == 104) i fun v => runv 37 50 ls (v :: st) h := runv_iald (show vcode 37 49 = some (.iaload, 1, 0, 0) from rfl)
theorem s37_50 {x y : Int32} : runv 37 50 ls (.int y :: .int x :: st) h = runv 37 51 ls (.int (x + y) :: st) h := runv_plain (x := (.iadd, 1, 0, 0)) rfl rfl
theorem s37_51 {a : Nat} {p0 : Int32} {p1 : Int32} (h1 : st.length ≤ 4) (h2 : vtag h a = 9) : runv 37 51 ls (.int p1 :: .int p0 :: .ref a :: st) h = vbind (callv 33 [.ref a, .int p0, .int p1] h) fun v h' => runv 37 54 ls (vpush v st) h' := runv_call (show vcode 37 51 = some (.invokevirtual 82, 3, 33, 3) from rfl) rfl (vcall_mk rfl rfl h1 (by decide) (vrecv_tag h2 (by decide)) rfl)
theorem s37_54 {a0 a1 a2 a3 a4 a5 : Option Value} {x : Int32} : runv 37 54 (a0 :: a1 :: a2 :: a3 :: a4 :: a5 :: ls) (.int x :: st) h = runv 37 56 (a0 :: a1 :: a2 :: a3 :: a4 :: some (.int x) :: ls) st h := (runv_plain (x := (.istore 5, 2, 0, 0)) rfl rfl).trans (by simp only [vstep, List.length_cons, show ∀ n : Nat, 5 < n + 6 from fun n => by omega, if_true]; rfl)
theorem s37_56 {a0 a1 a2 a3 a4 : Option Value} {x : Int32} : runv 37 56 (a0 :: a1 :: a2 :: a3 :: a4 :: some (.int x) :: ls) st h = runv 37 58 (a0 :: a1 :: a2 :: a3 :: a4 :: some (.int x) :: ls) (.int x :: st) h := runv_plain (x := (.iload 5, 2, 0, 0)) rfl rfl
theorem s37_58 {x : Int32} : runv 37 58 ls (.int x :: st) h = if x < 0 then runv 37 118 ls st h else runv 37 61 ls st h := (runv_if (show vcode 37 58 = some (.ifCond .lt (60), 3, 0, 0) from rfl) (by decide)).trans (by simp only [vcmp, decide_eq_true_eq]; rfl)
theorem s37_61 {x : Nat} : runv 37 61 (some (.ref x) :: ls) st h = runv 37 62 (some (.ref x) :: ls) (.ref x :: st) h := runv_plain (x := (.aload_n 0, 1, 0, 0)) rfl rfl
theorem s37_62 {a : Nat} : runv 37 62 ls (.ref a :: st) h = vgf h a 9 3 fun v => runv 37 65 ls (v :: st) h := runv_get (show vcode 37 62 = some (.getfield 16, 3, 9, 3) from rfl)
theorem s37_65 {a0 a1 : Option Value} {x : Int32} : runv 37 65 (a0 :: a1 :: some (.int x) :: ls) st h = runv 37 66 (a0 :: a1 :: some (.int x) :: ls) (.int x :: st) h := runv_plain (x := (.iload_n 2, 1, 0, 0)) rfl rfl
theorem s37_66 {a : Nat} {i : Int32} : runv 37 66 ls (.int i :: .ref a :: st) h = vld2 h a (fun t => t == 100 || t == 104) i fun v => runv 37 67 ls (v :: st) h := runv_iald (show vcode 37 66 = some (.iaload, 1, 0, 0) from rfl)
theorem s37_67 : runv 37 67 ls st h = runv 37 68 ls (.int 2 :: st) h := runv_plain (x := (.iconst 2, 1, 0, 0)) rfl rfl
theorem s37_68 {x y : Int32} : runv 37 68 ls (.int y :: .int x :: st) h = if x = y then runv 37 71 ls st h else runv 37 85 ls st h := (runv_icmp (show vcode 37 68 = some (.if_icmp .ne (17), 3, 0, 0) from rfl) (by decide)).trans (by simp only [vcmp, decide_eq_true_eq, ite_not]; rfl)
theorem s37_71 {x : Nat} : runv 37 71 (some (.ref x) :: ls) st h = runv 37 72 (some (.ref x) :: ls) (.ref x :: st) h := runv_plain (x := (.aload_n 0, 1, 0, 0)) rfl rfl
theorem s37_72 {a : Nat} : runv 37 72 ls (.ref a :: st) h = vgf h a 9 3 fun v => runv 37 75 ls (v :: st) h := runv_get (show vcode 37 72 = some (.getfield 16, 3, 9, 3) from rfl)
theorem s37_75 {a0 a1 a2 a3 a4 : Option Value} {x : Int32} : runv 37 75 (a0 :: a1 :: a2 :: a3 :: a4 :: some (.int x) :: ls) st h = runv 37 77 (a0 :: a1 :: a2 :: a3 :: a4 :: some (.int x) :: ls) (.int x :: st) h := runv_plain (x := (.iload 5, 2, 0, 0)) rfl rfl
theorem s37_77 {a : Nat} {i : Int32} : runv 37 77 ls (.int i :: .ref a :: st) h = vld2 h a (fun t => t == 100 || t == 104) i fun v => runv 37 78 ls (v :: st) h := runv_iald (show vcode 37 77 = some (.iaload, 1, 0, 0) from rfl)
theorem s37_78 : runv 37 78 ls st h = runv 37 79 ls (.int 1 :: st) h := runv_plain (x := (.iconst 1, 1, 0, 0)) rfl rfl
theorem s37_79 {x y : Int32} : runv 37 79 ls (.int y :: .int x :: st) h = if x ≤ y then runv 37 118 ls st h else runv 37 82 ls st h := (runv_icmp (show vcode 37 79 = some (.if_icmp .le (39), 3, 0, 0) from rfl) (by decide)).trans (by simp only [vcmp, decide_eq_true_eq]; rfl)
theorem s37_82 : runv 37 82 ls st h = runv 37 114 ls st h := runv_plain (x := (.goto (32), 3, 0, 0)) rfl rfl
theorem s37_85 {a0 a1 a2 : Option Value} {x : Int32} : runv 37 85 (a0 :: a1 :: a2 :: some (.int x) :: ls) st h = runv 37 86 (a0 :: a1 :: a2 :: some (.int x) :: ls) (.int x :: st) h := runv_plain (x := (.iload_n 3, 1, 0, 0)) rfl rfl
theorem s37_86 {x : Int32} : runv 37 86 ls (.int x :: st) h = if x = 0 then runv 37 89 ls st h else runv 37 103 ls st h := (runv_if (show vcode 37 86 = some (.ifCond .ne (17), 3, 0, 0) from rfl) (by decide)).trans (by simp only [vcmp, decide_eq_true_eq, ite_not]; rfl)
theorem s37_89 {x : Nat} : runv 37 89 (some (.ref x) :: ls) st h = runv 37 90 (some (.ref x) :: ls) (.ref x :: st) h := runv_plain (x := (.aload_n 0, 1, 0, 0)) rfl rfl
theorem s37_90 {a : Nat} : runv 37 90 ls (.ref a :: st) h = vgf h a 9 3 fun v => runv 37 93 ls (v :: st) h := runv_get (show vcode 37 90 = some (.getfield 16, 3, 9, 3) from rfl)
theorem s37_93 {a0 a1 a2 a3 a4 : Option Value} {x : Int32} : runv 37 93 (a0 :: a1 :: a2 :: a3 :: a4 :: some (.int x) :: ls) st h = runv 37 95 (a0 :: a1 :: a2 :: a3 :: a4 :: some (.int x) :: ls) (.int x :: st) h := runv_plain (x := (.iload 5, 2, 0, 0)) rfl rfl
theorem s37_95 {a : Nat} {i : Int32} : runv 37 95 ls (.int i :: .ref a :: st) h = vld2 h a (fun t => t == 100 || t == 104) i fun v => runv 37 96 ls (v :: st) h := runv_iald (show vcode 37 95 = some (.iaload, 1, 0, 0) from rfl)
theorem s37_96 : runv 37 96 ls st h = runv 37 97 ls (.int 2 :: st) h := runv_plain (x := (.iconst 2, 1, 0, 0)) rfl rfl
theorem s37_97 {x y : Int32} : runv 37 97 ls (.int y :: .int x :: st) h = if x = y then runv 37 100 ls st h else runv 37 118 ls st h := (runv_icmp (show vcode 37 97 = some (.if_icmp .ne (21), 3, 0, 0) from rfl) (by decide)).trans (by simp only [vcmp, decide_eq_true_eq, ite_not]; rfl)
theorem s37_100 : runv 37 100 ls st h = runv 37 114 ls st h := runv_plain (x := (.goto (14), 3, 0, 0)) rfl rfl
theorem s37_103 {x : Nat} : runv 37 103 (some (.ref x) :: ls) st h = runv 37 104 (some (.ref x) :: ls) (.ref x :: st) h := runv_plain (x := (.aload_n 0, 1, 0, 0)) rfl rfl
theorem s37_104 {a : Nat} : runv 37 104 ls (.ref a :: st) h = vgf h a 9 3 fun v => runv 37 107 ls (v :: st) h := runv_get (show vcode 37 104 = some (.getfield 16, 3, 9, 3) from rfl)
theorem s37_107 {a0 a1 a2 a3 a4 : Option Value} {x : Int32} : runv 37 107 (a0 :: a1 :: a2 :: a3 :: a4 :: some (.int x) :: ls) st h = runv 37 109 (a0 :: a1 :: a2 :: a3 :: a4 :: some (.int x) :: ls) (.int x :: st) h := runv_plain (x := (.iload 5, 2, 0, 0)) rfl rfl
theorem s37_109 {a : Nat} {i : Int32} : runv 37 109 ls (.int i :: .ref a :: st) h = vld2 h a (fun t => t == 100 || t == 104) i fun v => runv 37 110 ls (v :: st) h := runv_iald (show vcode 37 109 = some (.iaload, 1, 0, 0) from rfl)
theorem s37_110 : runv 37 110 ls st h = runv 37 111 ls (.int 1 :: st) h := runv_plain (x := (.iconst 1, 1, 0, 0)) rfl rfl
theorem s37_111 {x y : Int32} : runv 37 111 ls (.int y :: .int x :: st) h = if x = y then runv 37 114 ls st h else runv 37 118 ls st h := (runv_icmp (show vcode 37 111 = some (.if_icmp .ne (7), 3, 0, 0) from rfl) (by decide)).trans (by simp only [vcmp, decide_eq_true_eq, ite_not]; rfl)
theorem s37_114 : runv 37 114 ls st h = runv 37 115 ls (.int 1 :: st) h := runv_plain (x := (.iconst 1, 1, 0, 0)) rfl rfl
theorem s37_115 : runv 37 115 ls st h = runv 37 119 ls st h := runv_plain (x := (.goto (4), 3, 0, 0)) rfl rfl
theorem s37_118 : runv 37 118 ls st h = runv 37 119 ls (.int 0 :: st) h := runv_plain (x := (.iconst 0, 1, 0, 0)) rfl rfl
theorem s37_119 {a0 a1 a2 a3 a4 a5 a6 : Option Value} {x : Int32} : runv 37 119 (a0 :: a1 :: a2 :: a3 :: a4 :: a5 :: a6 :: ls) (.int x :: st) h = runv 37 121 (a0 :: a1 :: a2 :: a3 :: a4 :: a5 :: some (.int x) :: ls) st h := (runv_plain (x := (.istore 6, 2, 0, 0)) rfl rfl).trans (by simp only [vstep, List.length_cons, show ∀ n : Nat, 6 < n + 7 from fun n => by omega, if_true]; rfl)
theorem s37_121 {a0 a1 a2 a3 a4 a5 : Option Value} {x : Int32} : runv 37 121 (a0 :: a1 :: a2 :: a3 :: a4 :: a5 :: some (.int x) :: ls) st h = runv 37 123 (a0 :: a1 :: a2 :: a3 :: a4 :: a5 :: some (.int x) :: ls) (.int x :: st) h := runv_plain (x := (.iload 6, 2, 0, 0)) rfl rfl
theorem s37_123 {x : Int32} : runv 37 123 ls (.int x :: st) h = if x = 0 then runv 37 131 ls st h else runv 37 126 ls st h := (runv_if (show vcode 37 123 = some (.ifCond .eq (8), 3, 0, 0) from rfl) (by decide)).trans (by simp only [vcmp, decide_eq_true_eq]; rfl)
theorem s37_126 {a0 a1 a2 a3 a4 : Option Value} {x : Int32} : runv 37 126 (a0 :: a1 :: a2 :: a3 :: a4 :: some (.int x) :: ls) st h = runv 37 128 (a0 :: a1 :: a2 :: a3 :: a4 :: some (.int x) :: ls) (.int x :: st) h := runv_plain (x := (.iload 5, 2, 0, 0)) rfl rfl
theorem s37_128 : runv 37 128 ls st h = runv 37 132 ls st h := runv_plain (x := (.goto (4), 3, 0, 0)) rfl rfl
theorem s37_131 : runv 37 131 ls st h = runv 37 132 ls (.int (-1) :: st) h := runv_plain (x := (.iconst (-1), 1, 0, 0)) rfl rfl
theorem s37_132 {v : Int32} : runv 37 132 ls [.int v] h = some (some (.int v), h) := runv_ret (show vcode 37 132 = some (.ireturn, 1, 0, 0) from rfl) rfl rfl
theorem s38_0 {x : Nat} : runv 38 0 (some (.ref x) :: ls) st h = runv 38 1 (some (.ref x) :: ls) (.ref x :: st) h := runv_plain (x := (.aload_n 0, 1, 0, 0)) rfl rfl
theorem s38_1 {a : Nat} : runv 38 1 ls (.ref a :: st) h = vgf h a 9 6 fun v => runv 38 4 ls (v :: st) h := runv_get (show vcode 38 1 = some (.getfield 25, 3, 9, 6) from rfl)
theorem s38_4 {a0 a1 : Option Value} {x : Int32} : runv 38 4 (a0 :: a1 :: some (.int x) :: ls) st h = runv 38 5 (a0 :: a1 :: some (.int x) :: ls) (.int x :: st) h := runv_plain (x := (.iload_n 2, 1, 0, 0)) rfl rfl
theorem s38_5 : runv 38 5 ls st h = runv 38 6 ls (.int 1 :: st) h := runv_plain (x := (.iconst 1, 1, 0, 0)) rfl rfl
theorem s38_6 {a : Nat} {i v : Int32} : runv 38 6 ls (.int v :: .int i :: .ref a :: st) h = vst2 h a 101 i (.int (v &&& 1)) fun h1 => runv 38 7 ls st h1 := runv_zast (show vcode 38 6 = some (.bastore, 1, 0, 0) from rfl)
theorem s38_7 {x : Nat} : runv 38 7 (some (.ref x) :: ls) st h = runv 38 8 (some (.ref x) :: ls) (.ref x :: st) h := runv_plain (x := (.aload_n 0, 1, 0, 0)) rfl rfl
theorem s38_8 : runv 38 8 ls st h = runv 38 9 ls (.int 1 :: st) h := runv_plain (x := (.iconst 1, 1, 0, 0)) rfl rfl
theorem s38_9 {a : Nat} {v : Value} : runv 38 9 ls (v :: .ref a :: st) h = vpf h a 9 7 v fun h1 => runv 38 12 ls st h1 := runv_put (show vcode 38 9 = some (.putfield 85, 3, 9, 7) from rfl)
theorem s38_12 : runv 38 12 ls st h = runv 38 13 ls (.int 1 :: st) h := runv_plain (x := (.iconst 1, 1, 0, 0)) rfl rfl
theorem s38_13 {a0 a1 a2 a3 : Option Value} {x : Int32} : runv 38 13 (a0 :: a1 :: a2 :: a3 :: ls) (.int x :: st) h = runv 38 14 (a0 :: a1 :: a2 :: some (.int x) :: ls) st h := (runv_plain (x := (.istore_n 3, 1, 0, 0)) rfl rfl).trans (by simp only [vstep, List.length_cons, show ∀ n : Nat, 3 < n + 4 from fun n => by omega, if_true]; rfl)
theorem s38_14 : runv 38 14 ls st h = runv 38 15 ls (.int 0 :: st) h := runv_plain (x := (.iconst 0, 1, 0, 0)) rfl rfl
theorem s38_15 {a0 a1 a2 a3 a4 : Option Value} {x : Int32} : runv 38 15 (a0 :: a1 :: a2 :: a3 :: a4 :: ls) (.int x :: st) h = runv 38 17 (a0 :: a1 :: a2 :: a3 :: some (.int x) :: ls) st h := (runv_plain (x := (.istore 4, 2, 0, 0)) rfl rfl).trans (by simp only [vstep, List.length_cons, show ∀ n : Nat, 4 < n + 5 from fun n => by omega, if_true]; rfl)
theorem s38_17 {a0 a1 a2 a3 : Option Value} {x : Int32} : runv 38 17 (a0 :: a1 :: a2 :: a3 :: some (.int x) :: ls) st h = runv 38 19 (a0 :: a1 :: a2 :: a3 :: some (.int x) :: ls) (.int x :: st) h := runv_plain (x := (.iload 4, 2, 0, 0)) rfl rfl
theorem s38_19 : runv 38 19 ls st h = runv 38 21 ls (.int 24 :: st) h := runv_plain (x := (.bipush (24), 2, 0, 0)) rfl rfl
theorem s38_21 {x y : Int32} : runv 38 21 ls (.int y :: .int x :: st) h = if y < x then runv 38 164 ls st h else runv 38 24 ls st h := (runv_icmp (show vcode 38 21 = some (.if_icmp .gt (143), 3, 0, 0) from rfl) (by decide)).trans (by simp only [vcmp, decide_eq_true_eq]; rfl)
theorem s38_24 {a0 a1 a2 : Option Value} {x : Int32} : runv 38 24 (a0 :: a1 :: a2 :: some (.int x) :: ls) st h = runv 38 25 (a0 :: a1 :: a2 :: some (.int x) :: ls) (.int x :: st) h := runv_plain (x := (.iload_n 3, 1, 0, 0)) rfl rfl
theorem s38_25 {x : Int32} : runv 38 25 ls (.int x :: st) h = if x = 0 then runv 38 164 ls st h else runv 38 28 ls st h := (runv_if (show vcode 38 25 = some (.ifCond .eq (139), 3, 0, 0) from rfl) (by decide)).trans (by simp only [vcmp, decide_eq_true_eq]; rfl)
theorem s38_28 : runv 38 28 ls st h = runv 38 29 ls (.int 0 :: st) h := runv_plain (x := (.iconst 0, 1, 0, 0)) rfl rfl
theorem s38_29 {a0 a1 a2 a3 : Option Value} {x : Int32} : runv 38 29 (a0 :: a1 :: a2 :: a3 :: ls) (.int x :: st) h = runv 38 30 (a0 :: a1 :: a2 :: some (.int x) :: ls) st h := (runv_plain (x := (.istore_n 3, 1, 0, 0)) rfl rfl).trans (by simp only [vstep, List.length_cons, show ∀ n : Nat, 3 < n + 4 from fun n => by omega, if_true]; rfl)
theorem s38_30 {a0 : Option Value} {x : Int32} : runv 38 30 (a0 :: some (.int x) :: ls) st h = runv 38 31 (a0 :: some (.int x) :: ls) (.int x :: st) h := runv_plain (x := (.iload_n 1, 1, 0, 0)) rfl rfl
theorem s38_31 {p0 : Int32} (h1 : st.length ≤ 4) : runv 38 31 ls (.int p0 :: st) h = vbind (callv 32 [.int p0] h) fun v h' => runv 38 34 ls (vpush v st) h' := runv_call (show vcode 38 31 = some (.invokestatic 75, 3, 32, 1) from rfl) rfl (vcall_mk rfl rfl h1 (by decide) rfl rfl)
theorem s38_34 {a0 a1 a2 a3 a4 a5 : Option Value} {x : Int32} : runv 38 34 (a0 :: a1 :: a2 :: a3 :: a4 :: a5 :: ls) (.int x :: st) h = runv 38 36 (a0 :: a1 :: a2 :: a3 :: a4 :: some (.int x) :: ls) st h := (runv_plain (x := (.istore 5, 2, 0, 0)) rfl rfl).trans (by simp only [vstep, List.length_cons, show ∀ n : Nat, 5 < n + 6 from fun n => by omega, if_true]; rfl)
theorem s38_36 {a0 a1 a2 a3 a4 : Option Value} {x : Int32} : runv 38 36 (a0 :: a1 :: a2 :: a3 :: a4 :: some (.int x) :: ls) st h = runv 38 38 (a0 :: a1 :: a2 :: a3 :: a4 :: some (.int x) :: ls) (.int x :: st) h := runv_plain (x := (.iload 5, 2, 0, 0)) rfl rfl
theorem s38_38 {a0 : Option Value} {x : Int32} : runv 38 38 (a0 :: some (.int x) :: ls) st h = runv 38 39 (a0 :: some (.int x) :: ls) (.int x :: st) h := runv_plain (x := (.iload_n 1, 1, 0, 0)) rfl rfl
theorem s38_39 {p0 : Int32} (h1 : st.length ≤ 4) : runv 38 39 ls (.int p0 :: st) h = vbind (callv 32 [.int p0] h) fun v h' => runv 38 42 ls (vpush v st) h' := runv_call (show vcode 38 39 = some (.invokestatic 75, 3, 32, 1) from rfl) rfl (vcall_mk rfl rfl h1 (by decide) rfl rfl)
theorem s38_42 {x : Nat} : runv 38 42 (some (.ref x) :: ls) st h = runv 38 43 (some (.ref x) :: ls) (.ref x :: st) h := runv_plain (x := (.aload_n 0, 1, 0, 0)) rfl rfl
theorem s38_43 {a : Nat} : runv 38 43 ls (.ref a :: st) h = vgf h a 9 2 fun v => runv 38 46 ls (v :: st) h := runv_get (show vcode 38 43 = some (.getfield 13, 3, 9, 2) from rfl)
theorem s38_46 {a0 : Option Value} {x : Int32} : runv 38 46 (a0 :: some (.int x) :: ls) st h = runv 38 47 (a0 :: some (.int x) :: ls) (.int x :: st) h := runv_plain (x := (.iload_n 1, 1, 0, 0)) rfl rfl
theorem s38_47 {a : Nat} {i : Int32} : runv 38 47 ls (.int i :: .ref a :: st) h = vld2 h a (fun t => t == 100 || t == 104) i fun v => runv 38 48 ls (v :: st) h := runv_iald (show vcode 38 47 = some (.iaload, 1, 0, 0) from rfl)
theorem s38_48 {x y : Int32} : runv 38 48 ls (.int y :: .int x :: st) h = runv 38 49 ls (.int (x + y) :: st) h := runv_plain (x := (.iadd, 1, 0, 0)) rfl rfl
theorem s38_49 {x y : Int32} : runv 38 49 ls (.int y :: .int x :: st) h = if y ≤ x then runv 38 158 ls st h else runv 38 52 ls st h := (runv_icmp (show vcode 38 49 = some (.if_icmp .ge (109), 3, 0, 0) from rfl) (by decide)).trans (by simp only [vcmp, decide_eq_true_eq]; rfl)
theorem s38_52 : runv 38 52 ls st h = runv 38 53 ls (.int 0 :: st) h := runv_plain (x := (.iconst 0, 1, 0, 0)) rfl rfl
theorem s38_53 {a0 a1 a2 a3 a4 a5 a6 : Option Value} {x : Int32} : runv 38 53 (a0 :: a1 :: a2 :: a3 :: a4 :: a5 :: a6 :: ls) (.int x :: st) h = runv 38 55 (a0 :: a1 :: a2 :: a3 :: a4 :: a5 :: some (.int x) :: ls) st h := (runv_plain (x := (.istore 6, 2, 0, 0)) rfl rfl).trans (by simp only [vstep, List.length_cons, show ∀ n : Nat, 6 < n + 7 from fun n => by omega, if_true]; rfl)
theorem s38_55 {x : Nat} : runv 38 55 (some (.ref x) :: ls) st h = runv 38 56 (some (.ref x) :: ls) (.ref x :: st) h := runv_plain (x := (.aload_n 0, 1, 0, 0)) rfl rfl
theorem s38_56 {a : Nat} : runv 38 56 ls (.ref a :: st) h = vgf h a 9 6 fun v => runv 38 59 ls (v :: st) h := runv_get (show vcode 38 56 = some (.getfield 25, 3, 9, 6) from rfl)
theorem s38_59 {a0 a1 a2 a3 a4 : Option Value} {x : Int32} : runv 38 59 (a0 :: a1 :: a2 :: a3 :: a4 :: some (.int x) :: ls) st h = runv 38 61 (a0 :: a1 :: a2 :: a3 :: a4 :: some (.int x) :: ls) (.int x :: st) h := runv_plain (x := (.iload 5, 2, 0, 0)) rfl rfl
theorem s38_61 {a : Nat} {i : Int32} : runv 38 61 ls (.int i :: .ref a :: st) h = vld2 h a (fun t => t == 101) i fun v => runv 38 62 ls (v :: st) h := runv_zald (show vcode 38 61 = some (.baload, 1, 0, 0) from rfl)
theorem s38_62 {x : Int32} : runv 38 62 ls (.int x :: st) h = if x = 0 then runv 38 152 ls st h else runv 38 65 ls st h := (runv_if (show vcode 38 62 = some (.ifCond .eq (90), 3, 0, 0) from rfl) (by decide)).trans (by simp only [vcmp, decide_eq_true_eq]; rfl)
theorem s38_65 {a0 a1 a2 a3 a4 a5 : Option Value} {x : Int32} : runv 38 65 (a0 :: a1 :: a2 :: a3 :: a4 :: a5 :: some (.int x) :: ls) st h = runv 38 67 (a0 :: a1 :: a2 :: a3 :: a4 :: a5 :: some (.int x) :: ls) (.int x :: st) h := runv_plain (x := (.iload 6, 2, 0, 0)) rfl rfl
theorem s38_67 {x : Nat} : runv 38 67 (some (.ref x) :: ls) st h = runv 38 68 (some (.ref x) :: ls) (.ref x :: st) h := runv_plain (x := (.aload_n 0, 1, 0, 0)) rfl rfl
theorem s38_68 {a0 a1 a2 a3 a4 : Option Value} {x : Int32} : runv 38 68 (a0 :: a1 :: a2 :: a3 :: a4 :: some (.int x) :: ls) st h = runv 38 70 (a0 :: a1 :: a2 :: a3 :: a4 :: some (.int x) :: ls) (.int x :: st) h := runv_plain (x := (.iload 5, 2, 0, 0)) rfl rfl
theorem s38_70 {a : Nat} {p0 : Int32} (h1 : st.length ≤ 4) (h2 : vtag h a = 9) : runv 38 70 ls (.int p0 :: .ref a :: st) h = vbind (callv 36 [.ref a, .int p0] h) fun v h' => runv 38 73 ls (vpush v st) h' := runv_call (show vcode 38 70 = some (.invokevirtual 89, 3, 36, 2) from rfl) rfl (vcall_mk rfl rfl h1 (by decide) (vrecv_tag h2 (by decide)) rfl)
theorem s38_73 {x y : Int32} : runv 38 73 ls (.int y :: .int x :: st) h = if y ≤ x then runv 38 152 ls st h else runv 38 76 ls st h := (runv_icmp (show vcode 38 73 = some (.if_icmp .ge (79), 3, 0, 0) from rfl) (by decide)).trans (by simp only [vcmp, decide_eq_true_eq]; rfl)
theorem s38_76 {x : Nat} : runv 38 76 (some (.ref x) :: ls) st h = runv 38 77 (some (.ref x) :: ls) (.ref x :: st) h := runv_plain (x := (.aload_n 0, 1, 0, 0)) rfl rfl
theorem s38_77 {a0 : Option Value} {x : Int32} : runv 38 77 (a0 :: some (.int x) :: ls) st h = runv 38 78 (a0 :: some (.int x) :: ls) (.int x :: st) h := runv_plain (x := (.iload_n 1, 1, 0, 0)) rfl rfl
theorem s38_78 {a0 a1 a2 a3 a4 : Option Value} {x : Int32} : runv 38 78 (a0 :: a1 :: a2 :: a3 :: a4 :: some (.int x) :: ls) st h = runv 38 80 (a0 :: a1 :: a2 :: a3 :: a4 :: some (.int x) :: ls) (.int x :: st) h := runv_plain (x := (.iload 5, 2, 0, 0)) rfl rfl
theorem s38_80 {a0 a1 a2 a3 a4 a5 : Option Value} {x : Int32} : runv 38 80 (a0 :: a1 :: a2 :: a3 :: a4 :: a5 :: some (.int x) :: ls) st h = runv 38 82 (a0 :: a1 :: a2 :: a3 :: a4 :: a5 :: some (.int x) :: ls) (.int x :: st) h := runv_plain (x := (.iload 6, 2, 0, 0)) rfl rfl
theorem s38_82 {a : Nat} {p0 : Int32} {p1 : Int32} {p2 : Int32} (h1 : st.length ≤ 4) (h2 : vtag h a = 9) : runv 38 82 ls (.int p2 :: .int p1 :: .int p0 :: .ref a :: st) h = vbind (callv 37 [.ref a, .int p0, .int p1, .int p2] h) fun v h' => runv 38 85 ls (vpush v st) h' := runv_call (show vcode 38 82 = some (.invokevirtual 92, 3, 37, 4) from rfl) rfl (vcall_mk rfl rfl h1 (by decide) (vrecv_tag h2 (by decide)) rfl)
theorem s38_85 {a0 a1 a2 a3 a4 a5 a6 a7 : Option Value} {x : Int32} : runv 38 85 (a0 :: a1 :: a2 :: a3 :: a4 :: a5 :: a6 :: a7 :: ls) (.int x :: st) h = runv 38 87 (a0 :: a1 :: a2 :: a3 :: a4 :: a5 :: a6 :: some (.int x) :: ls) st h := (runv_plain (x := (.istore 7, 2, 0, 0)) rfl rfl).trans (by simp only [vstep, List.length_cons, show ∀ n : Nat, 7 < n + 8 from fun n => by omega, if_true]; rfl)
theorem s38_87 {x : Nat} : runv 38 87 (some (.ref x) :: ls) st h = runv 38 88 (some (.ref x) :: ls) (.ref x :: st) h := runv_plain (x := (.aload_n 0, 1, 0, 0)) rfl rfl
theorem s38_88 {x : Nat} : runv 38 88 (some (.ref x) :: ls) st h = runv 38 89 (some (.ref x) :: ls) (.ref x :: st) h := runv_plain (x := (.aload_n 0, 1, 0, 0)) rfl rfl
theorem s38_89 {a : Nat} : runv 38 89 ls (.ref a :: st) h = vgf h a 9 7 fun v => runv 38 92 ls (v :: st) h := runv_get (show vcode 38 89 = some (.getfield 85, 3, 9, 7) from rfl)
theorem s38_92 {x : Int32} : runv 38 92 ls (.int x :: st) h = if x = 0 then runv 38 104 ls st h else runv 38 95 ls st h := (runv_if (show vcode 38 92 = some (.ifCond .eq (12), 3, 0, 0) from rfl) (by decide)).trans (by simp only [vcmp, decide_eq_true_eq]; rfl)
theorem s38_95 {a0 a1 a2 a3 a4 a5 a6 : Option Value} {x : Int32} : runv 38 95 (a0 :: a1 :: a2 :: a3 :: a4 :: a5 :: a6 :: some (.int x) :: ls) st h = runv 38 97 (a0 :: a1 :: a2 :: a3 :: a4 :: a5 :: a6 :: some (.int x) :: ls) (.int x :: st) h := runv_plain (x := (.iload 7, 2, 0, 0)) rfl rfl
theorem s38_97 {x : Int32} : runv 38 97 ls (.int x :: st) h = if x < 0 then runv 38 104 ls st h else runv 38 100 ls st h := (runv_if (show vcode 38 97 = some (.ifCond .lt (7), 3, 0, 0) from rfl) (by decide)).trans (by simp only [vcmp, decide_eq_true_eq]; rfl)
theorem s38_100 : runv 38 100 ls st h = runv 38 101 ls (.int 1 :: st) h := runv_plain (x := (.iconst 1, 1, 0, 0)) rfl rfl
theorem s38_101 : runv 38 101 ls st h = runv 38 105 ls st h := runv_plain (x := (.goto (4), 3, 0, 0)) rfl rfl
theorem s38_104 : runv 38 104 ls st h = runv 38 105 ls (.int 0 :: st) h := runv_plain (x := (.iconst 0, 1, 0, 0)) rfl rfl
theorem s38_105 {a : Nat} {v : Value} : runv 38 105 ls (v :: .ref a :: st) h = vpf h a 9 7 v fun h1 => runv 38 108 ls st h1 := runv_put (show vcode 38 105 = some (.putfield 85, 3, 9, 7) from rfl)
theorem s38_108 {a0 a1 a2 : Option Value} {x : Int32} : runv 38 108 (a0 :: a1 :: a2 :: some (.int x) :: ls) st h = runv 38 109 (a0 :: a1 :: a2 :: some (.int x) :: ls) (.int x :: st) h := runv_plain (x := (.iload_n 3, 1, 0, 0)) rfl rfl
theorem s38_109 {x : Int32} : runv 38 109 ls (.int x :: st) h = if x = 0 then runv 38 112 ls st h else runv 38 127 ls st h := (runv_if (show vcode 38 109 = some (.ifCond .ne (18), 3, 0, 0) from rfl) (by decide)).trans (by simp only [vcmp, decide_eq_true_eq, ite_not]; rfl)
theorem s38_112 {a0 a1 a2 a3 a4 a5 a6 : Option Value} {x : Int32} : runv 38 112 (a0 :: a1 :: a2 :: a3 :: a4 :: a5 :: a6 :: some (.int x) :: ls) st h = runv 38 114 (a0 :: a1 :: a2 :: a3 :: a4 :: a5 :: a6 :: some (.int x) :: ls) (.int x :: st) h := runv_plain (x := (.iload 7, 2, 0, 0)) rfl rfl
theorem s38_114 {x : Int32} : runv 38 114 ls (.int x :: st) h = if x < 0 then runv 38 131 ls st h else runv 38 117 ls st h := (runv_if (show vcode 38 114 = some (.ifCond .lt (17), 3, 0, 0) from rfl) (by decide)).trans (by simp only [vcmp, decide_eq_true_eq]; rfl)
theorem s38_117 {x : Nat} : runv 38 117 (some (.ref x) :: ls) st h = runv 38 118 (some (.ref x) :: ls) (.ref x :: st) h := runv_plain (x := (.aload_n 0, 1, 0, 0)) rfl rfl
theorem s38_118 {a : Nat} : runv 38 118 ls (.ref a :: st) h = vgf h a 9 6 fun v => runv 38 121 ls (v :: st) h := runv_get (show vcode 38 118 = some (.getfield 25, 3, 9, 6) from rfl)
theorem s38_121 {a0 a1 a2 a3 a4 a5 a6 : Option Value} {x : Int32} : runv 38 121 (a0 :: a1 :: a2 :: a3 :: a4 :: a5 :: a6 :: some (.int x) :: ls) st h = runv 38 123 (a0 :: a1 :: a2 :: a3 :: a4 :: a5 :: a6 :: some (.int x) :: ls) (.int x :: st) h := runv_plain (x := (.iload 7, 2, 0, 0)) rfl rfl
theorem s38_123 {a : Nat} {i : Int32} : runv 38 123 ls (.int i :: .ref a :: st) h = vld2 h a (fun t => t == 101) i fun v => runv 38 124 ls (v :: st) h := runv_zald (show vcode 38 123 = some (.baload, 1, 0, 0) from rfl)
theorem s38_124 {x : Int32} : runv 38 124 ls (.int x :: st) h = if x = 0 then runv 38 127 ls st h else runv 38 131 ls st h := (runv_if (show vcode 38 124 = some (.ifCond .ne (7), 3, 0, 0) from rfl) (by decide)).trans (by simp only [vcmp, decide_eq_true_eq, ite_not]; rfl)
theorem s38_127 : runv 38 127 ls st h = runv 38 128 ls (.int 1 :: st) h := runv_plain (x := (.iconst 1, 1, 0, 0)) rfl rfl
theorem s38_128 : runv 38 128 ls st h = runv 38 132 ls st h := runv_plain (x := (.goto (4), 3, 0, 0)) rfl rfl
theorem s38_131 : runv 38 131 ls st h = runv 38 132 ls (.int 0 :: st) h := runv_plain (x := (.iconst 0, 1, 0, 0)) rfl rfl
theorem s38_132 {a0 a1 a2 a3 : Option Value} {x : Int32} : runv 38 132 (a0 :: a1 :: a2 :: a3 :: ls) (.int x :: st) h = runv 38 133 (a0 :: a1 :: a2 :: some (.int x) :: ls) st h := (runv_plain (x := (.istore_n 3, 1, 0, 0)) rfl rfl).trans (by simp only [vstep, List.length_cons, show ∀ n : Nat, 3 < n + 4 from fun n => by omega, if_true]; rfl)
theorem s38_133 {a0 a1 a2 a3 a4 a5 a6 : Option Value} {x : Int32} : runv 38 133 (a0 :: a1 :: a2 :: a3 :: a4 :: a5 :: a6 :: some (.int x) :: ls) st h = runv 38 135 (a0 :: a1 :: a2 :: a3 :: a4 :: a5 :: a6 :: some (.int x) :: ls) (.int x :: st) h := runv_plain (x := (.iload 7, 2, 0, 0)) rfl rfl
theorem s38_135 {x : Int32} : runv 38 135 ls (.int x :: st) h = if x < 0 then runv 38 146 ls st h else runv 38 138 ls st h := (runv_if (show vcode 38 135 = some (.ifCond .lt (11), 3, 0, 0) from rfl) (by decide)).trans (by simp only [vcmp, decide_eq_true_eq]; rfl)
theorem s38_138 {x : Nat} : runv 38 138 (some (.ref x) :: ls) st h = runv 38 139 (some (.ref x) :: ls) (.ref x :: st) h := runv_plain (x := (.aload_n 0, 1, 0, 0)) rfl rfl
theorem s38_139 {a : Nat} : runv 38 139 ls (.ref a :: st) h = vgf h a 9 6 fun v => runv 38 142 ls (v :: st) h := runv_get (show vcode 38 139 = some (.getfield 25, 3, 9, 6) from rfl)
theorem s38_142 {a0 a1 a2 a3 a4 a5 a6 : Option Value} {x : Int32} : runv 38 142 (a0 :: a1 :: a2 :: a3 :: a4 :: a5 :: a6 :: some (.int x) :: ls) st h = runv 38 144 (a0 :: a1 :: a2 :: a3 :: a4 :: a5 :: a6 :: some (.int x) :: ls) (.int x :: st) h := runv_plain (x := (.iload 7, 2, 0, 0)) rfl rfl
theorem s38_144 : runv 38 144 ls st h = runv 38 145 ls (.int 1 :: st) h := runv_plain (x := (.iconst 1, 1, 0, 0)) rfl rfl
theorem s38_145 {a : Nat} {i v : Int32} : runv 38 145 ls (.int v :: .int i :: .ref a :: st) h = vst2 h a 101 i (.int (v &&& 1)) fun h1 => runv 38 146 ls st h1 := runv_zast (show vcode 38 145 = some (.bastore, 1, 0, 0) from rfl)
theorem s38_146 {a0 a1 a2 a3 a4 a5 : Option Value} {x : Int32} : runv 38 146 (a0 :: a1 :: a2 :: a3 :: a4 :: a5 :: some (.int x) :: ls) st h = runv 38 149 (a0 :: a1 :: a2 :: a3 :: a4 :: a5 :: some (.int (x + 1)) :: ls) st h := runv_plain (x := (.iinc 6 (1), 3, 0, 0)) rfl rfl
theorem s38_149 : runv 38 149 ls st h = runv 38 55 ls st h := runv_plain (x := (.goto (-94), 3, 0, 0)) rfl rfl
theorem s38_152 {a0 a1 a2 a3 a4 : Option Value} {x : Int32} : runv 38 152 (a0 :: a1 :: a2 :: a3 :: a4 :: some (.int x) :: ls) st h = runv 38 155 (a0 :: a1 :: a2 :: a3 :: a4 :: some (.int (x + 1)) :: ls) st h := runv_plain (x := (.iinc 5 (1), 3, 0, 0)) rfl rfl
theorem s38_155 : runv 38 155 ls st h = runv 38 36 ls st h := runv_plain (x := (.goto (-119), 3, 0, 0)) rfl rfl
theorem s38_158 {a0 a1 a2 a3 : Option Value} {x : Int32} : runv 38 158 (a0 :: a1 :: a2 :: a3 :: some (.int x) :: ls) st h = runv 38 161 (a0 :: a1 :: a2 :: a3 :: some (.int (x + 1)) :: ls) st h := runv_plain (x := (.iinc 4 (1), 3, 0, 0)) rfl rfl
theorem s38_161 : runv 38 161 ls st h = runv 38 17 ls st h := runv_plain (x := (.goto (-144), 3, 0, 0)) rfl rfl
theorem s38_164 : runv 38 164 ls [] h = some (none, h) := runv_ret (show vcode 38 164 = some (.return_, 1, 0, 0) from rfl) rfl rfl
theorem s39_0 : runv 39 0 ls st h = runv 39 1 ls (.int 0 :: st) h := runv_plain (x := (.iconst 0, 1, 0, 0)) rfl rfl
theorem s39_1 {a0 a1 : Option Value} {x : Int32} : runv 39 1 (a0 :: a1 :: ls) (.int x :: st) h = runv 39 2 (a0 :: some (.int x) :: ls) st h := (runv_plain (x := (.istore_n 1, 1, 0, 0)) rfl rfl).trans (by simp only [vstep, List.length_cons, show ∀ n : Nat, 1 < n + 2 from fun n => by omega, if_true]; rfl)
theorem s39_2 {a0 : Option Value} {x : Int32} : runv 39 2 (a0 :: some (.int x) :: ls) st h = runv 39 3 (a0 :: some (.int x) :: ls) (.int x :: st) h := runv_plain (x := (.iload_n 1, 1, 0, 0)) rfl rfl
theorem s39_3 : runv 39 3 ls st h = runv 39 5 ls (.int 40 :: st) h := runv_plain (x := (.bipush (40), 2, 0, 0)) rfl rfl
theorem s39_5 {x y : Int32} : runv 39 5 ls (.int y :: .int x :: st) h = if y ≤ x then runv 39 21 ls st h else runv 39 8 ls st h := (runv_icmp (show vcode 39 5 = some (.if_icmp .ge (16), 3, 0, 0) from rfl) (by decide)).trans (by simp only [vcmp, decide_eq_true_eq]; rfl)
theorem s39_8 {x : Nat} : runv 39 8 (some (.ref x) :: ls) st h = runv 39 9 (some (.ref x) :: ls) (.ref x :: st) h := runv_plain (x := (.aload_n 0, 1, 0, 0)) rfl rfl
theorem s39_9 {a : Nat} : runv 39 9 ls (.ref a :: st) h = vgf h a 9 6 fun v => runv 39 12 ls (v :: st) h := runv_get (show vcode 39 9 = some (.getfield 25, 3, 9, 6) from rfl)
theorem s39_12 {a0 : Option Value} {x : Int32} : runv 39 12 (a0 :: some (.int x) :: ls) st h = runv 39 13 (a0 :: some (.int x) :: ls) (.int x :: st) h := runv_plain (x := (.iload_n 1, 1, 0, 0)) rfl rfl
theorem s39_13 : runv 39 13 ls st h = runv 39 14 ls (.int 0 :: st) h := runv_plain (x := (.iconst 0, 1, 0, 0)) rfl rfl
theorem s39_14 {a : Nat} {i v : Int32} : runv 39 14 ls (.int v :: .int i :: .ref a :: st) h = vst2 h a 101 i (.int (v &&& 1)) fun h1 => runv 39 15 ls st h1 := runv_zast (show vcode 39 14 = some (.bastore, 1, 0, 0) from rfl)
theorem s39_15 {a0 : Option Value} {x : Int32} : runv 39 15 (a0 :: some (.int x) :: ls) st h = runv 39 18 (a0 :: some (.int (x + 1)) :: ls) st h := runv_plain (x := (.iinc 1 (1), 3, 0, 0)) rfl rfl
theorem s39_18 : runv 39 18 ls st h = runv 39 2 ls st h := runv_plain (x := (.goto (-16), 3, 0, 0)) rfl rfl
theorem s39_21 : runv 39 21 ls [] h = some (none, h) := runv_ret (show vcode 39 21 = some (.return_, 1, 0, 0) from rfl) rfl rfl
theorem s40_0 {a0 : Option Value} {x : Int32} : runv 40 0 (a0 :: some (.int x) :: ls) st h = runv 40 1 (a0 :: some (.int x) :: ls) (.int x :: st) h := runv_plain (x := (.iload_n 1, 1, 0, 0)) rfl rfl
theorem s40_1 : runv 40 1 ls st h = runv 40 2 ls (.int 1 :: st) h := runv_plain (x := (.iconst 1, 1, 0, 0)) rfl rfl
theorem s40_2 : runv 40 2 ls st h = runv 40 3 ls (.int 3 :: st) h := runv_plain (x := (.iconst 3, 1, 0, 0)) rfl rfl
theorem s40_3 {p0 : Int32} {p1 : Int32} {p2 : Int32} (h1 : st.length ≤ 4) : runv 40 3 ls (.int p2 :: .int p1 :: .int p0 :: st) h = vbind (callv 24 [.int p0, .int p1, .int p2] h) fun v h' => runv 40 6 ls (vpush v st) h' := runv_call (show vcode 40 3 = some (.invokestatic 63, 3, 24, 3) from rfl) rfl (vcall_mk rfl rfl h1 (by decide) rfl rfl)
theorem s40_6 {x : Int32} : runv 40 6 ls (.int x :: st) h = if x = 0 then runv 40 18 ls st h else runv 40 9 ls st h := (runv_if (show vcode 40 6 = some (.ifCond .eq (12), 3, 0, 0) from rfl) (by decide)).trans (by simp only [vcmp, decide_eq_true_eq]; rfl)
theorem s40_9 {x : Nat} : runv 40 9 (some (.ref x) :: ls) st h = runv 40 10 (some (.ref x) :: ls) (.ref x :: st) h := runv_plain (x := (.aload_n 0, 1, 0, 0)) rfl rfl
theorem s40_10 {a : Nat} : runv 40 10 ls (.ref a :: st) h = vgf h a 9 1 fun v => runv 40 13 ls (v :: st) h := runv_get (show vcode 40 10 = some (.getfield 67, 3, 9, 1) from rfl)
theorem s40_13 : runv 40 13 ls st h = runv 40 15 ls (.int 24 :: st) h := runv_plain (x := (.bipush (24), 2, 0, 0)) rfl rfl
theorem s40_15 {x y : Int32} : runv 40 15 ls (.int y :: .int x :: st) h = if x ≤ y then runv 40 20 ls st h else runv 40 18 ls st h := (runv_icmp (show vcode 40 15 = some (.if_icmp .le (5), 3, 0, 0) from rfl) (by decide)).trans (by simp only [vcmp, decide_eq_true_eq]; rfl)
theorem s40_18 : runv 40 18 ls st h = runv 40 19 ls (.int (-1) :: st) h := runv_plain (x := (.iconst (-1), 1, 0, 0)) rfl rfl
theorem s40_19 {v : Int32} : runv 40 19 ls [.int v] h = some (some (.int v), h) := runv_ret (show vcode 40 19 = some (.ireturn, 1, 0, 0) from rfl) rfl rfl
theorem s40_20 {x : Nat} : runv 40 20 (some (.ref x) :: ls) st h = runv 40 21 (some (.ref x) :: ls) (.ref x :: st) h := runv_plain (x := (.aload_n 0, 1, 0, 0)) rfl rfl
theorem s40_21 {a : Nat} : runv 40 21 ls (.ref a :: st) h = vgf h a 9 2 fun v => runv 40 24 ls (v :: st) h := runv_get (show vcode 40 21 = some (.getfield 13, 3, 9, 2) from rfl)
theorem s40_24 : runv 40 24 ls st h = runv 40 25 ls (.int 0 :: st) h := runv_plain (x := (.iconst 0, 1, 0, 0)) rfl rfl
theorem s40_25 {a : Nat} {i : Int32} : runv 40 25 ls (.int i :: .ref a :: st) h = vld2 h a (fun t => t == 100 || t == 104) i fun v => runv 40 26 ls (v :: st) h := runv_iald (show vcode 40 25 = some (.iaload, 1, 0, 0) from rfl)
theorem s40_26 {a0 a1 a2 : Option Value} {x : Int32} : runv 40 26 (a0 :: a1 :: a2 :: ls) (.int x :: st) h = runv 40 27 (a0 :: a1 :: some (.int x) :: ls) st h := (runv_plain (x := (.istore_n 2, 1, 0, 0)) rfl rfl).trans (by simp only [vstep, List.length_cons, show ∀ n : Nat, 2 < n + 3 from fun n => by omega, if_true]; rfl)
theorem s40_27 {x : Nat} : runv 40 27 (some (.ref x) :: ls) st h = runv 40 28 (some (.ref x) :: ls) (.ref x :: st) h := runv_plain (x := (.aload_n 0, 1, 0, 0)) rfl rfl
theorem s40_28 {a : Nat} : runv 40 28 ls (.ref a :: st) h = vgf h a 9 3 fun v => runv 40 31 ls (v :: st) h := runv_get (show vcode 40 28 = some (.getfield 16, 3, 9, 3) from rfl)
theorem s40_31 : runv 40 31 ls st h = runv 40 33 ls (.int 56 :: st) h := runv_plain (x := (.bipush (56), 2, 0, 0)) rfl rfl
theorem s40_33 {a0 : Option Value} {x : Int32} : runv 40 33 (a0 :: some (.int x) :: ls) st h = runv 40 34 (a0 :: some (.int x) :: ls) (.int x :: st) h := runv_plain (x := (.iload_n 1, 1, 0, 0)) rfl rfl
theorem s40_34 {a : Nat} {i v : Int32} : runv 40 34 ls (.int v :: .int i :: .ref a :: st) h = vst2 h a 100 i (.int v) fun h1 => runv 40 35 ls st h1 := runv_iast (show vcode 40 34 = some (.iastore, 1, 0, 0) from rfl)
theorem s40_35 {x : Nat} : runv 40 35 (some (.ref x) :: ls) st h = runv 40 36 (some (.ref x) :: ls) (.ref x :: st) h := runv_plain (x := (.aload_n 0, 1, 0, 0)) rfl rfl
theorem s40_36 {a : Nat} : runv 40 36 ls (.ref a :: st) h = vgf h a 9 4 fun v => runv 40 39 ls (v :: st) h := runv_get (show vcode 40 36 = some (.getfield 19, 3, 9, 4) from rfl)
theorem s40_39 : runv 40 39 ls st h = runv 40 41 ls (.int 56 :: st) h := runv_plain (x := (.bipush (56), 2, 0, 0)) rfl rfl
theorem s40_41 {x : Nat} : runv 40 41 (some (.ref x) :: ls) st h = runv 40 42 (some (.ref x) :: ls) (.ref x :: st) h := runv_plain (x := (.aload_n 0, 1, 0, 0)) rfl rfl
theorem s40_42 {a : Nat} : runv 40 42 ls (.ref a :: st) h = vgf h a 9 1 fun v => runv 40 45 ls (v :: st) h := runv_get (show vcode 40 42 = some (.getfield 67, 3, 9, 1) from rfl)
theorem s40_45 {a : Nat} {i v : Int32} : runv 40 45 ls (.int v :: .int i :: .ref a :: st) h = vst2 h a 100 i (.int v) fun h1 => runv 40 46 ls st h1 := runv_iast (show vcode 40 45 = some (.iastore, 1, 0, 0) from rfl)
theorem s40_46 : runv 40 46 ls st h = runv 40 47 ls (.int 0 :: st) h := runv_plain (x := (.iconst 0, 1, 0, 0)) rfl rfl
theorem s40_47 {a0 a1 a2 a3 : Option Value} {x : Int32} : runv 40 47 (a0 :: a1 :: a2 :: a3 :: ls) (.int x :: st) h = runv 40 48 (a0 :: a1 :: a2 :: some (.int x) :: ls) st h := (runv_plain (x := (.istore_n 3, 1, 0, 0)) rfl rfl).trans (by simp only [vstep, List.length_cons, show ∀ n : Nat, 3 < n + 4 from fun n => by omega, if_true]; rfl)
theorem s40_48 {a0 a1 a2 : Option Value} {x : Int32} : runv 40 48 (a0 :: a1 :: a2 :: some (.int x) :: ls) st h = runv 40 49 (a0 :: a1 :: a2 :: some (.int x) :: ls) (.int x :: st) h := runv_plain (x := (.iload_n 3, 1, 0, 0)) rfl rfl
theorem s40_49 {x : Nat} : runv 40 49 (some (.ref x) :: ls) st h = runv 40 50 (some (.ref x) :: ls) (.ref x :: st) h := runv_plain (x := (.aload_n 0, 1, 0, 0)) rfl rfl
theorem s40_50 {a : Nat} : runv 40 50 ls (.ref a :: st) h = vgf h a 9 1 fun v => runv 40 53 ls (v :: st) h := runv_get (show vcode 40 50 = some (.getfield 67, 3, 9, 1) from rfl)
theorem s40_53 {x y : Int32} : runv 40 53 ls (.int y :: .int x :: st) h = if y ≤ x then runv 40 78 ls st h else runv 40 56 ls st h := (runv_icmp (show vcode 40 53 = some (.if_icmp .ge (25), 3, 0, 0) from rfl) (by decide)).trans (by simp only [vcmp, decide_eq_true_eq]; rfl)
theorem s40_56 {x : Nat} : runv 40 56 (some (.ref x) :: ls) st h = runv 40 57 (some (.ref x) :: ls) (.ref x :: st) h := runv_plain (x := (.aload_n 0, 1, 0, 0)) rfl rfl
theorem s40_57 {a : Nat} : runv 40 57 ls (.ref a :: st) h = vgf h a 9 5 fun v => runv 40 60 ls (v :: st) h := runv_get (show vcode 40 57 = some (.getfield 22, 3, 9, 5) from rfl)
theorem s40_60 : runv 40 60 ls st h = runv 40 63 ls (.int 1344 :: st) h := runv_plain (x := (.sipush (1344), 3, 0, 0)) rfl rfl
theorem s40_63 {a0 a1 a2 : Option Value} {x : Int32} : runv 40 63 (a0 :: a1 :: a2 :: some (.int x) :: ls) st h = runv 40 64 (a0 :: a1 :: a2 :: some (.int x) :: ls) (.int x :: st) h := runv_plain (x := (.iload_n 3, 1, 0, 0)) rfl rfl
theorem s40_64 {x y : Int32} : runv 40 64 ls (.int y :: .int x :: st) h = runv 40 65 ls (.int (x + y) :: st) h := runv_plain (x := (.iadd, 1, 0, 0)) rfl rfl
theorem s40_65 {x : Nat} : runv 40 65 (some (.ref x) :: ls) st h = runv 40 66 (some (.ref x) :: ls) (.ref x :: st) h := runv_plain (x := (.aload_n 0, 1, 0, 0)) rfl rfl
theorem s40_66 {a : Nat} : runv 40 66 ls (.ref a :: st) h = vgf h a 9 0 fun v => runv 40 69 ls (v :: st) h := runv_get (show vcode 40 66 = some (.getfield 7, 3, 9, 0) from rfl)
theorem s40_69 {a0 a1 a2 : Option Value} {x : Int32} : runv 40 69 (a0 :: a1 :: a2 :: some (.int x) :: ls) st h = runv 40 70 (a0 :: a1 :: a2 :: some (.int x) :: ls) (.int x :: st) h := runv_plain (x := (.iload_n 3, 1, 0, 0)) rfl rfl
theorem s40_70 {a : Nat} {i : Int32} : runv 40 70 ls (.int i :: .ref a :: st) h = vld2 h a (fun t => t == 100 || t == 104) i fun v => runv 40 71 ls (v :: st) h := runv_iald (show vcode 40 70 = some (.iaload, 1, 0, 0) from rfl)
theorem s40_71 {a : Nat} {i v : Int32} : runv 40 71 ls (.int v :: .int i :: .ref a :: st) h = vst2 h a 100 i (.int v) fun h1 => runv 40 72 ls st h1 := runv_iast (show vcode 40 71 = some (.iastore, 1, 0, 0) from rfl)
theorem s40_72 {a0 a1 a2 : Option Value} {x : Int32} : runv 40 72 (a0 :: a1 :: a2 :: some (.int x) :: ls) st h = runv 40 75 (a0 :: a1 :: a2 :: some (.int (x + 1)) :: ls) st h := runv_plain (x := (.iinc 3 (1), 3, 0, 0)) rfl rfl
theorem s40_75 : runv 40 75 ls st h = runv 40 48 ls st h := runv_plain (x := (.goto (-27), 3, 0, 0)) rfl rfl
theorem s40_78 {x : Nat} : runv 40 78 (some (.ref x) :: ls) st h = runv 40 79 (some (.ref x) :: ls) (.ref x :: st) h := runv_plain (x := (.aload_n 0, 1, 0, 0)) rfl rfl
theorem s40_79 : runv 40 79 ls st h = runv 40 81 ls (.int 56 :: st) h := runv_plain (x := (.bipush (56), 2, 0, 0)) rfl rfl
theorem s40_81 {a : Nat} {p0 : Int32} (h1 : st.length ≤ 4) (h2 : vtag h a = 9) : runv 40 81 ls (.int p0 :: .ref a :: st) h = vbind (callv 31 [.ref a, .int p0] h) fun v h' => runv 40 84 ls (vpush v st) h' := runv_call (show vcode 40 81 = some (.invokevirtual 79, 3, 31, 2) from rfl) rfl (vcall_mk rfl rfl h1 (by decide) (vrecv_tag h2 (by decide)) rfl)
theorem s40_84 {a0 a1 a2 a3 : Option Value} {x : Int32} : runv 40 84 (a0 :: a1 :: a2 :: a3 :: ls) (.int x :: st) h = runv 40 85 (a0 :: a1 :: a2 :: some (.int x) :: ls) st h := (runv_plain (x := (.istore_n 3, 1, 0, 0)) rfl rfl).trans (by simp only [vstep, List.length_cons, show ∀ n : Nat, 3 < n + 4 from fun n => by omega, if_true]; rfl)
theorem s40_85 {x : Nat} : runv 40 85 (some (.ref x) :: ls) st h = runv 40 86 (some (.ref x) :: ls) (.ref x :: st) h := runv_plain (x := (.aload_n 0, 1, 0, 0)) rfl rfl
theorem s40_86 : runv 40 86 ls st h = runv 40 87 ls (.int 0 :: st) h := runv_plain (x := (.iconst 0, 1, 0, 0)) rfl rfl
theorem s40_87 {a0 a1 a2 : Option Value} {x : Int32} : runv 40 87 (a0 :: a1 :: a2 :: some (.int x) :: ls) st h = runv 40 88 (a0 :: a1 :: a2 :: some (.int x) :: ls) (.int x :: st) h := runv_plain (x := (.iload_n 3, 1, 0, 0)) rfl rfl
theorem s40_88 {a : Nat} {p0 : Int32} {p1 : Int32} (h1 : st.length ≤ 4) (h2 : vtag h a = 9) : runv 40 88 ls (.int p1 :: .int p0 :: .ref a :: st) h = vbind (callv 33 [.ref a, .int p0, .int p1] h) fun v h' => runv 40 91 ls (vpush v st) h' := runv_call (show vcode 40 88 = some (.invokevirtual 82, 3, 33, 3) from rfl) rfl (vcall_mk rfl rfl h1 (by decide) (vrecv_tag h2 (by decide)) rfl)
theorem s40_91 {a0 a1 a2 a3 a4 : Option Value} {x : Int32} : runv 40 91 (a0 :: a1 :: a2 :: a3 :: a4 :: ls) (.int x :: st) h = runv 40 93 (a0 :: a1 :: a2 :: a3 :: some (.int x) :: ls) st h := (runv_plain (x := (.istore 4, 2, 0, 0)) rfl rfl).trans (by simp only [vstep, List.length_cons, show ∀ n : Nat, 4 < n + 5 from fun n => by omega, if_true]; rfl)
theorem s40_93 {x : Nat} : runv 40 93 (some (.ref x) :: ls) st h = runv 40 94 (some (.ref x) :: ls) (.ref x :: st) h := runv_plain (x := (.aload_n 0, 1, 0, 0)) rfl rfl
theorem s40_94 : runv 40 94 ls st h = runv 40 96 ls (.int 56 :: st) h := runv_plain (x := (.bipush (56), 2, 0, 0)) rfl rfl
theorem s40_96 {a : Nat} {p0 : Int32} (h1 : st.length ≤ 4) (h2 : vtag h a = 9) : runv 40 96 ls (.int p0 :: .ref a :: st) h = vbind (callv 35 [.ref a, .int p0] h) fun v h' => runv 40 99 ls (vpush v st) h' := runv_call (show vcode 40 96 = some (.invokevirtual 96, 3, 35, 2) from rfl) rfl (vcall_mk rfl rfl h1 (by decide) (vrecv_tag h2 (by decide)) rfl)
theorem s40_99 {x : Int32} : runv 40 99 ls (.int x :: st) h = if x = 0 then runv 40 131 ls st h else runv 40 102 ls st h := (runv_if (show vcode 40 99 = some (.ifCond .eq (32), 3, 0, 0) from rfl) (by decide)).trans (by simp only [vcmp, decide_eq_true_eq]; rfl)
theorem s40_102 {a0 a1 a2 a3 : Option Value} {x : Int32} : runv 40 102 (a0 :: a1 :: a2 :: a3 :: some (.int x) :: ls) st h = runv 40 104 (a0 :: a1 :: a2 :: a3 :: some (.int x) :: ls) (.int x :: st) h := runv_plain (x := (.iload 4, 2, 0, 0)) rfl rfl
theorem s40_104 {x : Int32} : runv 40 104 ls (.int x :: st) h = if 0 ≤ x then runv 40 116 ls st h else runv 40 107 ls st h := (runv_if (show vcode 40 104 = some (.ifCond .ge (12), 3, 0, 0) from rfl) (by decide)).trans (by simp only [vcmp, decide_eq_true_eq]; rfl)
theorem s40_107 {a0 a1 : Option Value} {x : Int32} : runv 40 107 (a0 :: a1 :: some (.int x) :: ls) st h = runv 40 108 (a0 :: a1 :: some (.int x) :: ls) (.int x :: st) h := runv_plain (x := (.iload_n 2, 1, 0, 0)) rfl rfl
theorem s40_108 : runv 40 108 ls st h = runv 40 110 ls (.int 16 :: st) h := runv_plain (x := (.bipush (16), 2, 0, 0)) rfl rfl
theorem s40_110 {x y : Int32} : runv 40 110 ls (.int y :: .int x :: st) h = if y ≤ x then runv 40 131 ls st h else runv 40 113 ls st h := (runv_icmp (show vcode 40 110 = some (.if_icmp .ge (21), 3, 0, 0) from rfl) (by decide)).trans (by simp only [vcmp, decide_eq_true_eq]; rfl)
theorem s40_113 : runv 40 113 ls st h = runv 40 127 ls st h := runv_plain (x := (.goto (14), 3, 0, 0)) rfl rfl
theorem s40_116 {x : Nat} : runv 40 116 (some (.ref x) :: ls) st h = runv 40 117 (some (.ref x) :: ls) (.ref x :: st) h := runv_plain (x := (.aload_n 0, 1, 0, 0)) rfl rfl
theorem s40_117 {a0 a1 a2 a3 : Option Value} {x : Int32} : runv 40 117 (a0 :: a1 :: a2 :: a3 :: some (.int x) :: ls) st h = runv 40 119 (a0 :: a1 :: a2 :: a3 :: some (.int x) :: ls) (.int x :: st) h := runv_plain (x := (.iload 4, 2, 0, 0)) rfl rfl
theorem s40_119 : runv 40 119 ls st h = runv 40 121 ls (.int 56 :: st) h := runv_plain (x := (.bipush (56), 2, 0, 0)) rfl rfl
theorem s40_121 {a : Nat} {p0 : Int32} {p1 : Int32} (h1 : st.length ≤ 4) (h2 : vtag h a = 9) : runv 40 121 ls (.int p1 :: .int p0 :: .ref a :: st) h = vbind (callv 34 [.ref a, .int p0, .int p1] h) fun v h' => runv 40 124 ls (vpush v st) h' := runv_call (show vcode 40 121 = some (.invokevirtual 100, 3, 34, 3) from rfl) rfl (vcall_mk rfl rfl h1 (by decide) (vrecv_tag h2 (by decide)) rfl)
theorem s40_124 {x : Int32} : runv 40 124 ls (.int x :: st) h = if x = 0 then runv 40 131 ls st h else runv 40 127 ls st h := (runv_if (show vcode 40 124 = some (.ifCond .eq (7), 3, 0, 0) from rfl) (by decide)).trans (by simp only [vcmp, decide_eq_true_eq]; rfl)
theorem s40_127 : runv 40 127 ls st h = runv 40 128 ls (.int 1 :: st) h := runv_plain (x := (.iconst 1, 1, 0, 0)) rfl rfl
theorem s40_128 : runv 40 128 ls st h = runv 40 132 ls st h := runv_plain (x := (.goto (4), 3, 0, 0)) rfl rfl
theorem s40_131 : runv 40 131 ls st h = runv 40 132 ls (.int 0 :: st) h := runv_plain (x := (.iconst 0, 1, 0, 0)) rfl rfl
theorem s40_132 {a0 a1 a2 a3 a4 a5 : Option Value} {x : Int32} : runv 40 132 (a0 :: a1 :: a2 :: a3 :: a4 :: a5 :: ls) (.int x :: st) h = runv 40 134 (a0 :: a1 :: a2 :: a3 :: a4 :: some (.int x) :: ls) st h := (runv_plain (x := (.istore 5, 2, 0, 0)) rfl rfl).trans (by simp only [vstep, List.length_cons, show ∀ n : Nat, 5 < n + 6 from fun n => by omega, if_true]; rfl)
theorem s40_134 : runv 40 134 ls st h = runv 40 135 ls (.int 0 :: st) h := runv_plain (x := (.iconst 0, 1, 0, 0)) rfl rfl
theorem s40_135 {a0 a1 a2 a3 a4 a5 a6 : Option Value} {x : Int32} : runv 40 135 (a0 :: a1 :: a2 :: a3 :: a4 :: a5 :: a6 :: ls) (.int x :: st) h = runv 40 137 (a0 :: a1 :: a2 :: a3 :: a4 :: a5 :: some (.int x) :: ls) st h := (runv_plain (x := (.istore 6, 2, 0, 0)) rfl rfl).trans (by simp only [vstep, List.length_cons, show ∀ n : Nat, 6 < n + 7 from fun n => by omega, if_true]; rfl)
theorem s40_137 {a0 a1 a2 a3 a4 : Option Value} {x : Int32} : runv 40 137 (a0 :: a1 :: a2 :: a3 :: a4 :: some (.int x) :: ls) st h = runv 40 139 (a0 :: a1 :: a2 :: a3 :: a4 :: some (.int x) :: ls) (.int x :: st) h := runv_plain (x := (.iload 5, 2, 0, 0)) rfl rfl
theorem s40_139 {x : Int32} : runv 40 139 ls (.int x :: st) h = if x = 0 then runv 40 178 ls st h else runv 40 142 ls st h := (runv_if (show vcode 40 139 = some (.ifCond .eq (39), 3, 0, 0) from rfl) (by decide)).trans (by simp only [vcmp, decide_eq_true_eq]; rfl)
theorem s40_142 {a0 a1 a2 a3 a4 a5 : Option Value} {x : Int32} : runv 40 142 (a0 :: a1 :: a2 :: a3 :: a4 :: a5 :: some (.int x) :: ls) st h = runv 40 144 (a0 :: a1 :: a2 :: a3 :: a4 :: a5 :: some (.int x) :: ls) (.int x :: st) h := runv_plain (x := (.iload 6, 2, 0, 0)) rfl rfl
theorem s40_144 {x : Nat} : runv 40 144 (some (.ref x) :: ls) st h = runv 40 145 (some (.ref x) :: ls) (.ref x :: st) h := runv_plain (x := (.aload_n 0, 1, 0, 0)) rfl rfl
theorem s40_145 : runv 40 145 ls st h = runv 40 147 ls (.int 56 :: st) h := runv_plain (x := (.bipush (56), 2, 0, 0)) rfl rfl
theorem s40_147 {a : Nat} {p0 : Int32} (h1 : st.length ≤ 4) (h2 : vtag h a = 9) : runv 40 147 ls (.int p0 :: .ref a :: st) h = vbind (callv 36 [.ref a, .int p0] h) fun v h' => runv 40 150 ls (vpush v st) h' := runv_call (show vcode 40 147 = some (.invokevirtual 89, 3, 36, 2) from rfl) rfl (vcall_mk rfl rfl h1 (by decide) (vrecv_tag h2 (by decide)) rfl)
theorem s40_150 {x y : Int32} : runv 40 150 ls (.int y :: .int x :: st) h = if y ≤ x then runv 40 178 ls st h else runv 40 153 ls st h := (runv_icmp (show vcode 40 150 = some (.if_icmp .ge (28), 3, 0, 0) from rfl) (by decide)).trans (by simp only [vcmp, decide_eq_true_eq]; rfl)
theorem s40_153 {x : Nat} : runv 40 153 (some (.ref x) :: ls) st h = runv 40 154 (some (.ref x) :: ls) (.ref x :: st) h := runv_plain (x := (.aload_n 0, 1, 0, 0)) rfl rfl
theorem s40_154 : runv 40 154 ls st h = runv 40 155 ls (.int 0 :: st) h := runv_plain (x := (.iconst 0, 1, 0, 0)) rfl rfl
theorem s40_155 : runv 40 155 ls st h = runv 40 157 ls (.int 56 :: st) h := runv_plain (x := (.bipush (56), 2, 0, 0)) rfl rfl
theorem s40_157 {a0 a1 a2 a3 a4 a5 : Option Value} {x : Int32} : runv 40 157 (a0 :: a1 :: a2 :: a3 :: a4 :: a5 :: some (.int x) :: ls) st h = runv 40 159 (a0 :: a1 :: a2 :: a3 :: a4 :: a5 :: some (.int x) :: ls) (.int x :: st) h := runv_plain (x := (.iload 6, 2, 0, 0)) rfl rfl
theorem s40_159 {a : Nat} {p0 : Int32} {p1 : Int32} {p2 : Int32} (h1 : st.length ≤ 4) (h2 : vtag h a = 9) : runv 40 159 ls (.int p2 :: .int p1 :: .int p0 :: .ref a :: st) h = vbind (callv 37 [.ref a, .int p0, .int p1, .int p2] h) fun v h' => runv 40 162 ls (vpush v st) h' := runv_call (show vcode 40 159 = some (.invokevirtual 92, 3, 37, 4) from rfl) rfl (vcall_mk rfl rfl h1 (by decide) (vrecv_tag h2 (by decide)) rfl)
theorem s40_162 {x : Int32} : runv 40 162 ls (.int x :: st) h = if x < 0 then runv 40 169 ls st h else runv 40 165 ls st h := (runv_if (show vcode 40 162 = some (.ifCond .lt (7), 3, 0, 0) from rfl) (by decide)).trans (by simp only [vcmp, decide_eq_true_eq]; rfl)
theorem s40_165 : runv 40 165 ls st h = runv 40 166 ls (.int 1 :: st) h := runv_plain (x := (.iconst 1, 1, 0, 0)) rfl rfl
theorem s40_166 : runv 40 166 ls st h = runv 40 170 ls st h := runv_plain (x := (.goto (4), 3, 0, 0)) rfl rfl
theorem s40_169 : runv 40 169 ls st h = runv 40 170 ls (.int 0 :: st) h := runv_plain (x := (.iconst 0, 1, 0, 0)) rfl rfl
theorem s40_170 {a0 a1 a2 a3 a4 a5 : Option Value} {x : Int32} : runv 40 170 (a0 :: a1 :: a2 :: a3 :: a4 :: a5 :: ls) (.int x :: st) h = runv 40 172 (a0 :: a1 :: a2 :: a3 :: a4 :: some (.int x) :: ls) st h := (runv_plain (x := (.istore 5, 2, 0, 0)) rfl rfl).trans (by simp only [vstep, List.length_cons, show ∀ n : Nat, 5 < n + 6 from fun n => by omega, if_true]; rfl)
theorem s40_172 {a0 a1 a2 a3 a4 a5 : Option Value} {x : Int32} : runv 40 172 (a0 :: a1 :: a2 :: a3 :: a4 :: a5 :: some (.int x) :: ls) st h = runv 40 175 (a0 :: a1 :: a2 :: a3 :: a4 :: a5 :: some (.int (x + 1)) :: ls) st h := runv_plain (x := (.iinc 6 (1), 3, 0, 0)) rfl rfl
theorem s40_175 : runv 40 175 ls st h = runv 40 137 ls st h := runv_plain (x := (.goto (-38), 3, 0, 0)) rfl rfl
theorem s40_178 {a0 a1 a2 a3 a4 : Option Value} {x : Int32} : runv 40 178 (a0 :: a1 :: a2 :: a3 :: a4 :: some (.int x) :: ls) st h = runv 40 180 (a0 :: a1 :: a2 :: a3 :: a4 :: some (.int x) :: ls) (.int x :: st) h := runv_plain (x := (.iload 5, 2, 0, 0)) rfl rfl
theorem s40_180 {x : Int32} : runv 40 180 ls (.int x :: st) h = if x = 0 then runv 40 183 ls st h else runv 40 185 ls st h := (runv_if (show vcode 40 180 = some (.ifCond .ne (5), 3, 0, 0) from rfl) (by decide)).trans (by simp only [vcmp, decide_eq_true_eq, ite_not]; rfl)
theorem s40_183 : runv 40 183 ls st h = runv 40 184 ls (.int (-1) :: st) h := runv_plain (x := (.iconst (-1), 1, 0, 0)) rfl rfl
theorem s40_184 {v : Int32} : runv 40 184 ls [.int v] h = some (some (.int v), h) := runv_ret (show vcode 40 184 = some (.ireturn, 1, 0, 0) from rfl) rfl rfl
theorem s40_185 {a0 a1 a2 a3 : Option Value} {x : Int32} : runv 40 185 (a0 :: a1 :: a2 :: a3 :: some (.int x) :: ls) st h = runv 40 187 (a0 :: a1 :: a2 :: a3 :: some (.int x) :: ls) (.int x :: st) h := runv_plain (x := (.iload 4, 2, 0, 0)) rfl rfl
theorem s40_187 {x : Int32} : runv 40 187 ls (.int x :: st) h = if 0 ≤ x then runv 40 206 ls st h else runv 40 190 ls st h := (runv_if (show vcode 40 187 = some (.ifCond .ge (19), 3, 0, 0) from rfl) (by decide)).trans (by simp only [vcmp, decide_eq_true_eq]; rfl)
theorem s40_190 {x : Nat} : runv 40 190 (some (.ref x) :: ls) st h = runv 40 191 (some (.ref x) :: ls) (.ref x :: st) h := runv_plain (x := (.aload_n 0, 1, 0, 0)) rfl rfl
theorem s40_191 : runv 40 191 ls st h = runv 40 193 ls (.int 56 :: st) h := runv_plain (x := (.bipush (56), 2, 0, 0)) rfl rfl
theorem s40_193 {a0 a1 : Option Value} {x : Int32} : runv 40 193 (a0 :: a1 :: some (.int x) :: ls) st h = runv 40 194 (a0 :: a1 :: some (.int x) :: ls) (.int x :: st) h := runv_plain (x := (.iload_n 2, 1, 0, 0)) rfl rfl
theorem s40_194 {a : Nat} {p0 : Int32} {p1 : Int32} (h1 : st.length ≤ 4) (h2 : vtag h a = 9) : runv 40 194 ls (.int p1 :: .int p0 :: .ref a :: st) h = vbind (callv 41 [.ref a, .int p0, .int p1] h) fun v h' => runv 40 197 ls (vpush v st) h' := runv_call (show vcode 40 194 = some (.invokevirtual 104, 3, 41, 3) from rfl) rfl (vcall_mk rfl rfl h1 (by decide) (vrecv_tag h2 (by decide)) rfl)
theorem s40_197 {x : Nat} : runv 40 197 (some (.ref x) :: ls) st h = runv 40 198 (some (.ref x) :: ls) (.ref x :: st) h := runv_plain (x := (.aload_n 0, 1, 0, 0)) rfl rfl
theorem s40_198 {a : Nat} : runv 40 198 ls (.ref a :: st) h = vgf h a 9 2 fun v => runv 40 201 ls (v :: st) h := runv_get (show vcode 40 198 = some (.getfield 13, 3, 9, 2) from rfl)
theorem s40_201 : runv 40 201 ls st h = runv 40 202 ls (.int 0 :: st) h := runv_plain (x := (.iconst 0, 1, 0, 0)) rfl rfl
theorem s40_202 {a0 a1 : Option Value} {x : Int32} : runv 40 202 (a0 :: a1 :: some (.int x) :: ls) st h = runv 40 203 (a0 :: a1 :: some (.int x) :: ls) (.int x :: st) h := runv_plain (x := (.iload_n 2, 1, 0, 0)) rfl rfl
theorem s40_203 : runv 40 203 ls st h = runv 40 204 ls (.int 1 :: st) h := runv_plain (x := (.iconst 1, 1, 0, 0)) rfl rfl
theorem s40_204 {x y : Int32} : runv 40 204 ls (.int y :: .int x :: st) h = runv 40 205 ls (.int (x + y) :: st) h := runv_plain (x := (.iadd, 1, 0, 0)) rfl rfl
theorem s40_205 {a : Nat} {i v : Int32} : runv 40 205 ls (.int v :: .int i :: .ref a :: st) h = vst2 h a 100 i (.int v) fun h1 => runv 40 206 ls st h1 := runv_iast (show vcode 40 205 = some (.iastore, 1, 0, 0) from rfl)
theorem s40_206 {x : Nat} : runv 40 206 (some (.ref x) :: ls) st h = runv 40 207 (some (.ref x) :: ls) (.ref x :: st) h := runv_plain (x := (.aload_n 0, 1, 0, 0)) rfl rfl
theorem s40_207 : runv 40 207 ls st h = runv 40 208 ls (.int 0 :: st) h := runv_plain (x := (.iconst 0, 1, 0, 0)) rfl rfl
theorem s40_208 {a : Nat} {v : Value} : runv 40 208 ls (v :: .ref a :: st) h = vpf h a 9 1 v fun h1 => runv 40 211 ls st h1 := runv_put (show vcode 40 208 = some (.putfield 67, 3, 9, 1) from rfl)
theorem s40_211 {a0 a1 a2 : Option Value} {x : Int32} : runv 40 211 (a0 :: a1 :: a2 :: some (.int x) :: ls) st h = runv 40 212 (a0 :: a1 :: a2 :: some (.int x) :: ls) (.int x :: st) h := runv_plain (x := (.iload_n 3, 1, 0, 0)) rfl rfl
theorem s40_212 {v : Int32} : runv 40 212 ls [.int v] h = some (some (.int v), h) := runv_ret (show vcode 40 212 = some (.ireturn, 1, 0, 0) from rfl) rfl rfl
theorem s41_0 {x : Nat} : runv 41 0 (some (.ref x) :: ls) st h = runv 41 1 (some (.ref x) :: ls) (.ref x :: st) h := runv_plain (x := (.aload_n 0, 1, 0, 0)) rfl rfl
theorem s41_1 {a : Nat} : runv 41 1 ls (.ref a :: st) h = vgf h a 9 3 fun v => runv 41 4 ls (v :: st) h := runv_get (show vcode 41 1 = some (.getfield 16, 3, 9, 3) from rfl)
theorem s41_4 {a0 a1 : Option Value} {x : Int32} : runv 41 4 (a0 :: a1 :: some (.int x) :: ls) st h = runv 41 5 (a0 :: a1 :: some (.int x) :: ls) (.int x :: st) h := runv_plain (x := (.iload_n 2, 1, 0, 0)) rfl rfl
theorem s41_5 {x : Nat} : runv 41 5 (some (.ref x) :: ls) st h = runv 41 6 (some (.ref x) :: ls) (.ref x :: st) h := runv_plain (x := (.aload_n 0, 1, 0, 0)) rfl rfl
theorem s41_6 {a : Nat} : runv 41 6 ls (.ref a :: st) h = vgf h a 9 3 fun v => runv 41 9 ls (v :: st) h := runv_get (show vcode 41 6 = some (.getfield 16, 3, 9, 3) from rfl)
theorem s41_9 {a0 : Option Value} {x : Int32} : runv 41 9 (a0 :: some (.int x) :: ls) st h = runv 41 10 (a0 :: some (.int x) :: ls) (.int x :: st) h := runv_plain (x := (.iload_n 1, 1, 0, 0)) rfl rfl
theorem s41_10 {a : Nat} {i : Int32} : runv 41 10 ls (.int i :: .ref a :: st) h = vld2 h a (fun t => t == 100 || t == 104) i fun v => runv 41 11 ls (v :: st) h := runv_iald (show vcode 41 10 = some (.iaload, 1, 0, 0) from rfl)
theorem s41_11 {a : Nat} {i v : Int32} : runv 41 11 ls (.int v :: .int i :: .ref a :: st) h = vst2 h a 100 i (.int v) fun h1 => runv 41 12 ls st h1 := runv_iast (show vcode 41 11 = some (.iastore, 1, 0, 0) from rfl)
theorem s41_12 {x : Nat} : runv 41 12 (some (.ref x) :: ls) st h = runv 41 13 (some (.ref x) :: ls) (.ref x :: st) h := runv_plain (x := (.aload_n 0, 1, 0, 0)) rfl rfl
theorem s41_13 {a : Nat} : runv 41 13 ls (.ref a :: st) h = vgf h a 9 4 fun v => runv 41 16 ls (v :: st) h := runv_get (show vcode 41 13 = some (.getfield 19, 3, 9, 4) from rfl)
theorem s41_16 {a0 a1 : Option Value} {x : Int32} : runv 41 16 (a0 :: a1 :: some (.int x) :: ls) st h = runv 41 17 (a0 :: a1 :: some (.int x) :: ls) (.int x :: st) h := runv_plain (x := (.iload_n 2, 1, 0, 0)) rfl rfl
theorem s41_17 {x : Nat} : runv 41 17 (some (.ref x) :: ls) st h = runv 41 18 (some (.ref x) :: ls) (.ref x :: st) h := runv_plain (x := (.aload_n 0, 1, 0, 0)) rfl rfl
theorem s41_18 {a : Nat} : runv 41 18 ls (.ref a :: st) h = vgf h a 9 4 fun v => runv 41 21 ls (v :: st) h := runv_get (show vcode 41 18 = some (.getfield 19, 3, 9, 4) from rfl)
theorem s41_21 {a0 : Option Value} {x : Int32} : runv 41 21 (a0 :: some (.int x) :: ls) st h = runv 41 22 (a0 :: some (.int x) :: ls) (.int x :: st) h := runv_plain (x := (.iload_n 1, 1, 0, 0)) rfl rfl
theorem s41_22 {a : Nat} {i : Int32} : runv 41 22 ls (.int i :: .ref a :: st) h = vld2 h a (fun t => t == 100 || t == 104) i fun v => runv 41 23 ls (v :: st) h := runv_iald (show vcode 41 22 = some (.iaload, 1, 0, 0) from rfl)
theorem s41_23 {a : Nat} {i v : Int32} : runv 41 23 ls (.int v :: .int i :: .ref a :: st) h = vst2 h a 100 i (.int v) fun h1 => runv 41 24 ls st h1 := runv_iast (show vcode 41 23 = some (.iastore, 1, 0, 0) from rfl)
theorem s41_24 : runv 41 24 ls st h = runv 41 25 ls (.int 0 :: st) h := runv_plain (x := (.iconst 0, 1, 0, 0)) rfl rfl
theorem s41_25 {a0 a1 a2 a3 : Option Value} {x : Int32} : runv 41 25 (a0 :: a1 :: a2 :: a3 :: ls) (.int x :: st) h = runv 41 26 (a0 :: a1 :: a2 :: some (.int x) :: ls) st h := (runv_plain (x := (.istore_n 3, 1, 0, 0)) rfl rfl).trans (by simp only [vstep, List.length_cons, show ∀ n : Nat, 3 < n + 4 from fun n => by omega, if_true]; rfl)
theorem s41_26 {a0 a1 a2 : Option Value} {x : Int32} : runv 41 26 (a0 :: a1 :: a2 :: some (.int x) :: ls) st h = runv 41 27 (a0 :: a1 :: a2 :: some (.int x) :: ls) (.int x :: st) h := runv_plain (x := (.iload_n 3, 1, 0, 0)) rfl rfl
theorem s41_27 : runv 41 27 ls st h = runv 41 29 ls (.int 24 :: st) h := runv_plain (x := (.bipush (24), 2, 0, 0)) rfl rfl
theorem s41_29 {x y : Int32} : runv 41 29 ls (.int y :: .int x :: st) h = if y ≤ x then runv 41 60 ls st h else runv 41 32 ls st h := (runv_icmp (show vcode 41 29 = some (.if_icmp .ge (31), 3, 0, 0) from rfl) (by decide)).trans (by simp only [vcmp, decide_eq_true_eq]; rfl)
theorem s41_32 {x : Nat} : runv 41 32 (some (.ref x) :: ls) st h = runv 41 33 (some (.ref x) :: ls) (.ref x :: st) h := runv_plain (x := (.aload_n 0, 1, 0, 0)) rfl rfl
theorem s41_33 {a : Nat} : runv 41 33 ls (.ref a :: st) h = vgf h a 9 5 fun v => runv 41 36 ls (v :: st) h := runv_get (show vcode 41 33 = some (.getfield 22, 3, 9, 5) from rfl)
theorem s41_36 : runv 41 36 ls st h = runv 41 38 ls (.int 24 :: st) h := runv_plain (x := (.bipush (24), 2, 0, 0)) rfl rfl
theorem s41_38 {a0 a1 : Option Value} {x : Int32} : runv 41 38 (a0 :: a1 :: some (.int x) :: ls) st h = runv 41 39 (a0 :: a1 :: some (.int x) :: ls) (.int x :: st) h := runv_plain (x := (.iload_n 2, 1, 0, 0)) rfl rfl
theorem s41_39 {x y : Int32} : runv 41 39 ls (.int y :: .int x :: st) h = runv 41 40 ls (.int (x * y) :: st) h := runv_plain (x := (.imul, 1, 0, 0)) rfl rfl
theorem s41_40 {a0 a1 a2 : Option Value} {x : Int32} : runv 41 40 (a0 :: a1 :: a2 :: some (.int x) :: ls) st h = runv 41 41 (a0 :: a1 :: a2 :: some (.int x) :: ls) (.int x :: st) h := runv_plain (x := (.iload_n 3, 1, 0, 0)) rfl rfl
theorem s41_41 {x y : Int32} : runv 41 41 ls (.int y :: .int x :: st) h = runv 41 42 ls (.int (x + y) :: st) h := runv_plain (x := (.iadd, 1, 0, 0)) rfl rfl
theorem s41_42 {x : Nat} : runv 41 42 (some (.ref x) :: ls) st h = runv 41 43 (some (.ref x) :: ls) (.ref x :: st) h := runv_plain (x := (.aload_n 0, 1, 0, 0)) rfl rfl
theorem s41_43 {a : Nat} : runv 41 43 ls (.ref a :: st) h = vgf h a 9 5 fun v => runv 41 46 ls (v :: st) h := runv_get (show vcode 41 43 = some (.getfield 22, 3, 9, 5) from rfl)
theorem s41_46 : runv 41 46 ls st h = runv 41 48 ls (.int 24 :: st) h := runv_plain (x := (.bipush (24), 2, 0, 0)) rfl rfl
theorem s41_48 {a0 : Option Value} {x : Int32} : runv 41 48 (a0 :: some (.int x) :: ls) st h = runv 41 49 (a0 :: some (.int x) :: ls) (.int x :: st) h := runv_plain (x := (.iload_n 1, 1, 0, 0)) rfl rfl
theorem s41_49 {x y : Int32} : runv 41 49 ls (.int y :: .int x :: st) h = runv 41 50 ls (.int (x * y) :: st) h := runv_plain (x := (.imul, 1, 0, 0)) rfl rfl
theorem s41_50 {a0 a1 a2 : Option Value} {x : Int32} : runv 41 50 (a0 :: a1 :: a2 :: some (.int x) :: ls) st h = runv 41 51 (a0 :: a1 :: a2 :: some (.int x) :: ls) (.int x :: st) h := runv_plain (x := (.iload_n 3, 1, 0, 0)) rfl rfl
theorem s41_51 {x y : Int32} : runv 41 51 ls (.int y :: .int x :: st) h = runv 41 52 ls (.int (x + y) :: st) h := runv_plain (x := (.iadd, 1, 0, 0)) rfl rfl
theorem s41_52 {a : Nat} {i : Int32} : runv 41 52 ls (.int i :: .ref a :: st) h = vld2 h a (fun t => t == 100 || t == 104) i fun v => runv 41 53 ls (v :: st) h := runv_iald (show vcode 41 52 = some (.iaload, 1, 0, 0) from rfl)
theorem s41_53 {a : Nat} {i v : Int32} : runv 41 53 ls (.int v :: .int i :: .ref a :: st) h = vst2 h a 100 i (.int v) fun h1 => runv 41 54 ls st h1 := runv_iast (show vcode 41 53 = some (.iastore, 1, 0, 0) from rfl)
theorem s41_54 {a0 a1 a2 : Option Value} {x : Int32} : runv 41 54 (a0 :: a1 :: a2 :: some (.int x) :: ls) st h = runv 41 57 (a0 :: a1 :: a2 :: some (.int (x + 1)) :: ls) st h := runv_plain (x := (.iinc 3 (1), 3, 0, 0)) rfl rfl
theorem s41_57 : runv 41 57 ls st h = runv 41 26 ls st h := runv_plain (x := (.goto (-31), 3, 0, 0)) rfl rfl
theorem s41_60 : runv 41 60 ls [] h = some (none, h) := runv_ret (show vcode 41 60 = some (.return_, 1, 0, 0) from rfl) rfl rfl
theorem s42_0 {x : Nat} : runv 42 0 (some (.ref x) :: ls) st h = runv 42 1 (some (.ref x) :: ls) (.ref x :: st) h := runv_plain (x := (.aload_n 0, 1, 0, 0)) rfl rfl
theorem s42_1 : runv 42 1 ls st h = runv 42 2 ls (.int 0 :: st) h := runv_plain (x := (.iconst 0, 1, 0, 0)) rfl rfl
theorem s42_2 {a0 a1 : Option Value} {x : Int32} : runv 42 2 (a0 :: a1 :: some (.int x) :: ls) st h = runv 42 3 (a0 :: a1 :: some (.int x) :: ls) (.int x :: st) h := runv_plain (x := (.iload_n 2, 1, 0, 0)) rfl rfl
theorem s42_3 {a : Nat} {p0 : Int32} {p1 : Int32} (h1 : st.length ≤ 4) (h2 : vtag h a = 9) : runv 42 3 ls (.int p1 :: .int p0 :: .ref a :: st) h = vbind (callv 33 [.ref a, .int p0, .int p1] h) fun v h' => runv 42 6 ls (vpush v st) h' := runv_call (show vcode 42 3 = some (.invokevirtual 82, 3, 33, 3) from rfl) rfl (vcall_mk rfl rfl h1 (by decide) (vrecv_tag h2 (by decide)) rfl)
theorem s42_6 {a0 a1 a2 a3 : Option Value} {x : Int32} : runv 42 6 (a0 :: a1 :: a2 :: a3 :: ls) (.int x :: st) h = runv 42 7 (a0 :: a1 :: a2 :: some (.int x) :: ls) st h := (runv_plain (x := (.istore_n 3, 1, 0, 0)) rfl rfl).trans (by simp only [vstep, List.length_cons, show ∀ n : Nat, 3 < n + 4 from fun n => by omega, if_true]; rfl)
theorem s42_7 {a0 : Option Value} {x : Int32} : runv 42 7 (a0 :: some (.int x) :: ls) st h = runv 42 8 (a0 :: some (.int x) :: ls) (.int x :: st) h := runv_plain (x := (.iload_n 1, 1, 0, 0)) rfl rfl
theorem s42_8 : runv 42 8 ls st h = runv 42 9 ls (.int 0 :: st) h := runv_plain (x := (.iconst 0, 1, 0, 0)) rfl rfl
theorem s42_9 : runv 42 9 ls st h = runv 42 10 ls (.int 3 :: st) h := runv_plain (x := (.iconst 3, 1, 0, 0)) rfl rfl
theorem s42_10 {p0 : Int32} {p1 : Int32} {p2 : Int32} (h1 : st.length ≤ 4) : runv 42 10 ls (.int p2 :: .int p1 :: .int p0 :: st) h = vbind (callv 24 [.int p0, .int p1, .int p2] h) fun v h' => runv 42 13 ls (vpush v st) h' := runv_call (show vcode 42 10 = some (.invokestatic 63, 3, 24, 3) from rfl) rfl (vcall_mk rfl rfl h1 (by decide) rfl rfl)
theorem s42_13 {x : Int32} : runv 42 13 ls (.int x :: st) h = if x = 0 then runv 42 30 ls st h else runv 42 16 ls st h := (runv_if (show vcode 42 13 = some (.ifCond .eq (17), 3, 0, 0) from rfl) (by decide)).trans (by simp only [vcmp, decide_eq_true_eq]; rfl)
theorem s42_16 {a0 a1 a2 : Option Value} {x : Int32} : runv 42 16 (a0 :: a1 :: a2 :: some (.int x) :: ls) st h = runv 42 17 (a0 :: a1 :: a2 :: some (.int x) :: ls) (.int x :: st) h := runv_plain (x := (.iload_n 3, 1, 0, 0)) rfl rfl
theorem s42_17 {x : Int32} : runv 42 17 ls (.int x :: st) h = if x < 0 then runv 42 30 ls st h else runv 42 20 ls st h := (runv_if (show vcode 42 17 = some (.ifCond .lt (13), 3, 0, 0) from rfl) (by decide)).trans (by simp only [vcmp, decide_eq_true_eq]; rfl)
theorem s42_20 {x : Nat} : runv 42 20 (some (.ref x) :: ls) st h = runv 42 21 (some (.ref x) :: ls) (.ref x :: st) h := runv_plain (x := (.aload_n 0, 1, 0, 0)) rfl rfl
theorem s42_21 {a : Nat} : runv 42 21 ls (.ref a :: st) h = vgf h a 9 3 fun v => runv 42 24 ls (v :: st) h := runv_get (show vcode 42 21 = some (.getfield 16, 3, 9, 3) from rfl)
theorem s42_24 {a0 a1 a2 : Option Value} {x : Int32} : runv 42 24 (a0 :: a1 :: a2 :: some (.int x) :: ls) st h = runv 42 25 (a0 :: a1 :: a2 :: some (.int x) :: ls) (.int x :: st) h := runv_plain (x := (.iload_n 3, 1, 0, 0)) rfl rfl
theorem s42_25 {a : Nat} {i : Int32} : runv 42 25 ls (.int i :: .ref a :: st) h = vld2 h a (fun t => t == 100 || t == 104) i fun v => runv 42 26 ls (v :: st) h := runv_iald (show vcode 42 25 = some (.iaload, 1, 0, 0) from rfl)
theorem s42_26 : runv 42 26 ls st h = runv 42 27 ls (.int 1 :: st) h := runv_plain (x := (.iconst 1, 1, 0, 0)) rfl rfl
theorem s42_27 {x y : Int32} : runv 42 27 ls (.int y :: .int x :: st) h = if x = y then runv 42 32 ls st h else runv 42 30 ls st h := (runv_icmp (show vcode 42 27 = some (.if_icmp .eq (5), 3, 0, 0) from rfl) (by decide)).trans (by simp only [vcmp, decide_eq_true_eq]; rfl)
theorem s42_30 : runv 42 30 ls st h = runv 42 31 ls (.int 0 :: st) h := runv_plain (x := (.iconst 0, 1, 0, 0)) rfl rfl
theorem s42_31 {v : Int32} (hv : v &&& 1 = v) : runv 42 31 ls [.int v] h = some (some (.int v), h) := runv_ret (show vcode 42 31 = some (.ireturn, 1, 0, 0) from rfl) rfl (by simp only [vretv, show vret 42 = some .boolean from rfl, if_pos hv])
theorem s42_32 {x : Nat} : runv 42 32 (some (.ref x) :: ls) st h = runv 42 33 (some (.ref x) :: ls) (.ref x :: st) h := runv_plain (x := (.aload_n 0, 1, 0, 0)) rfl rfl
theorem s42_33 {a : Nat} : runv 42 33 ls (.ref a :: st) h = vgf h a 9 8 fun v => runv 42 36 ls (v :: st) h := runv_get (show vcode 42 33 = some (.getfield 29, 3, 9, 8) from rfl)
theorem s42_36 {a0 : Option Value} {x : Int32} : runv 42 36 (a0 :: some (.int x) :: ls) st h = runv 42 37 (a0 :: some (.int x) :: ls) (.int x :: st) h := runv_plain (x := (.iload_n 1, 1, 0, 0)) rfl rfl
theorem s42_37 {a0 a1 : Option Value} {x : Int32} : runv 42 37 (a0 :: a1 :: some (.int x) :: ls) st h = runv 42 38 (a0 :: a1 :: some (.int x) :: ls) (.int x :: st) h := runv_plain (x := (.iload_n 2, 1, 0, 0)) rfl rfl
theorem s42_38 {a : Nat} {i v : Int32} : runv 42 38 ls (.int v :: .int i :: .ref a :: st) h = vst2 h a 100 i (.int v) fun h1 => runv 42 39 ls st h1 := runv_iast (show vcode 42 38 = some (.iastore, 1, 0, 0) from rfl)
theorem s42_39 : runv 42 39 ls st h = runv 42 40 ls (.int 1 :: st) h := runv_plain (x := (.iconst 1, 1, 0, 0)) rfl rfl
theorem s42_40 {v : Int32} (hv : v &&& 1 = v) : runv 42 40 ls [.int v] h = some (some (.int v), h) := runv_ret (show vcode 42 40 = some (.ireturn, 1, 0, 0) from rfl) rfl (by simp only [vretv, show vret 42 = some .boolean from rfl, if_pos hv])
theorem s43_0 {a0 : Option Value} {x : Int32} : runv 43 0 (a0 :: some (.int x) :: ls) st h = runv 43 1 (a0 :: some (.int x) :: ls) (.int x :: st) h := runv_plain (x := (.iload_n 1, 1, 0, 0)) rfl rfl
theorem s43_1 : runv 43 1 ls st h = runv 43 2 ls (.int 0 :: st) h := runv_plain (x := (.iconst 0, 1, 0, 0)) rfl rfl
theorem s43_2 : runv 43 2 ls st h = runv 43 3 ls (.int 3 :: st) h := runv_plain (x := (.iconst 3, 1, 0, 0)) rfl rfl
theorem s43_3 {p0 : Int32} {p1 : Int32} {p2 : Int32} (h1 : st.length ≤ 4) : runv 43 3 ls (.int p2 :: .int p1 :: .int p0 :: st) h = vbind (callv 24 [.int p0, .int p1, .int p2] h) fun v h' => runv 43 6 ls (vpush v st) h' := runv_call (show vcode 43 3 = some (.invokestatic 63, 3, 24, 3) from rfl) rfl (vcall_mk rfl rfl h1 (by decide) rfl rfl)
theorem s43_6 {x : Int32} : runv 43 6 ls (.int x :: st) h = if x = 0 then runv 43 18 ls st h else runv 43 9 ls st h := (runv_if (show vcode 43 6 = some (.ifCond .eq (12), 3, 0, 0) from rfl) (by decide)).trans (by simp only [vcmp, decide_eq_true_eq]; rfl)
theorem s43_9 {x : Nat} : runv 43 9 (some (.ref x) :: ls) st h = runv 43 10 (some (.ref x) :: ls) (.ref x :: st) h := runv_plain (x := (.aload_n 0, 1, 0, 0)) rfl rfl
theorem s43_10 {a : Nat} : runv 43 10 ls (.ref a :: st) h = vgf h a 9 8 fun v => runv 43 13 ls (v :: st) h := runv_get (show vcode 43 10 = some (.getfield 29, 3, 9, 8) from rfl)
theorem s43_13 {a0 : Option Value} {x : Int32} : runv 43 13 (a0 :: some (.int x) :: ls) st h = runv 43 14 (a0 :: some (.int x) :: ls) (.int x :: st) h := runv_plain (x := (.iload_n 1, 1, 0, 0)) rfl rfl
theorem s43_14 {a : Nat} {i : Int32} : runv 43 14 ls (.int i :: .ref a :: st) h = vld2 h a (fun t => t == 100 || t == 104) i fun v => runv 43 15 ls (v :: st) h := runv_iald (show vcode 43 14 = some (.iaload, 1, 0, 0) from rfl)
theorem s43_15 : runv 43 15 ls st h = runv 43 19 ls st h := runv_plain (x := (.goto (4), 3, 0, 0)) rfl rfl
theorem s43_18 : runv 43 18 ls st h = runv 43 19 ls (.int (-1) :: st) h := runv_plain (x := (.iconst (-1), 1, 0, 0)) rfl rfl
theorem s43_19 {v : Int32} : runv 43 19 ls [.int v] h = some (some (.int v), h) := runv_ret (show vcode 43 19 = some (.ireturn, 1, 0, 0) from rfl) rfl rfl
theorem s44_0 : runv 44 0 ls st h = runv 44 1 ls (.int 0 :: st) h := runv_plain (x := (.iconst 0, 1, 0, 0)) rfl rfl
theorem s44_1 {a0 a1 a2 : Option Value} {x : Int32} : runv 44 1 (a0 :: a1 :: a2 :: ls) (.int x :: st) h = runv 44 2 (a0 :: a1 :: some (.int x) :: ls) st h := (runv_plain (x := (.istore_n 2, 1, 0, 0)) rfl rfl).trans (by simp only [vstep, List.length_cons, show ∀ n : Nat, 2 < n + 3 from fun n => by omega, if_true]; rfl)
theorem s44_2 : runv 44 2 ls st h = runv 44 3 ls (.int 0 :: st) h := runv_plain (x := (.iconst 0, 1, 0, 0)) rfl rfl
theorem s44_3 {a0 a1 a2 a3 : Option Value} {x : Int32} : runv 44 3 (a0 :: a1 :: a2 :: a3 :: ls) (.int x :: st) h = runv 44 4 (a0 :: a1 :: a2 :: some (.int x) :: ls) st h := (runv_plain (x := (.istore_n 3, 1, 0, 0)) rfl rfl).trans (by simp only [vstep, List.length_cons, show ∀ n : Nat, 3 < n + 4 from fun n => by omega, if_true]; rfl)
theorem s44_4 {a0 a1 a2 : Option Value} {x : Int32} : runv 44 4 (a0 :: a1 :: a2 :: some (.int x) :: ls) st h = runv 44 5 (a0 :: a1 :: a2 :: some (.int x) :: ls) (.int x :: st) h := runv_plain (x := (.iload_n 3, 1, 0, 0)) rfl rfl
theorem s44_5 : runv 44 5 ls st h = runv 44 6 ls (.int 4 :: st) h := runv_plain (x := (.iconst 4, 1, 0, 0)) rfl rfl
theorem s44_6 {x y : Int32} : runv 44 6 ls (.int y :: .int x :: st) h = if y ≤ x then runv 44 39 ls st h else runv 44 9 ls st h := (runv_icmp (show vcode 44 6 = some (.if_icmp .ge (33), 3, 0, 0) from rfl) (by decide)).trans (by simp only [vcmp, decide_eq_true_eq]; rfl)
theorem s44_9 {a0 a1 : Option Value} {x : Int32} : runv 44 9 (a0 :: a1 :: some (.int x) :: ls) st h = runv 44 10 (a0 :: a1 :: some (.int x) :: ls) (.int x :: st) h := runv_plain (x := (.iload_n 2, 1, 0, 0)) rfl rfl
theorem s44_10 {x : Int32} : runv 44 10 ls (.int x :: st) h = if x = 0 then runv 44 13 ls st h else runv 44 27 ls st h := (runv_if (show vcode 44 10 = some (.ifCond .ne (17), 3, 0, 0) from rfl) (by decide)).trans (by simp only [vcmp, decide_eq_true_eq, ite_not]; rfl)
theorem s44_13 {a0 : Option Value} {x : Int32} : runv 44 13 (a0 :: some (.int x) :: ls) st h = runv 44 14 (a0 :: some (.int x) :: ls) (.int x :: st) h := runv_plain (x := (.iload_n 1, 1, 0, 0)) rfl rfl
theorem s44_14 {x : Int32} : runv 44 14 ls (.int x :: st) h = if x < 0 then runv 44 31 ls st h else runv 44 17 ls st h := (runv_if (show vcode 44 14 = some (.ifCond .lt (17), 3, 0, 0) from rfl) (by decide)).trans (by simp only [vcmp, decide_eq_true_eq]; rfl)
theorem s44_17 {x : Nat} : runv 44 17 (some (.ref x) :: ls) st h = runv 44 18 (some (.ref x) :: ls) (.ref x :: st) h := runv_plain (x := (.aload_n 0, 1, 0, 0)) rfl rfl
theorem s44_18 {a : Nat} : runv 44 18 ls (.ref a :: st) h = vgf h a 9 8 fun v => runv 44 21 ls (v :: st) h := runv_get (show vcode 44 18 = some (.getfield 29, 3, 9, 8) from rfl)
theorem s44_21 {a0 a1 a2 : Option Value} {x : Int32} : runv 44 21 (a0 :: a1 :: a2 :: some (.int x) :: ls) st h = runv 44 22 (a0 :: a1 :: a2 :: some (.int x) :: ls) (.int x :: st) h := runv_plain (x := (.iload_n 3, 1, 0, 0)) rfl rfl
theorem s44_22 {a : Nat} {i : Int32} : runv 44 22 ls (.int i :: .ref a :: st) h = vld2 h a (fun t => t == 100 || t == 104) i fun v => runv 44 23 ls (v :: st) h := runv_iald (show vcode 44 22 = some (.iaload, 1, 0, 0) from rfl)
theorem s44_23 {a0 : Option Value} {x : Int32} : runv 44 23 (a0 :: some (.int x) :: ls) st h = runv 44 24 (a0 :: some (.int x) :: ls) (.int x :: st) h := runv_plain (x := (.iload_n 1, 1, 0, 0)) rfl rfl
theorem s44_24 {x y : Int32} : runv 44 24 ls (.int y :: .int x :: st) h = if x = y then runv 44 27 ls st h else runv 44 31 ls st h := (runv_icmp (show vcode 44 24 = some (.if_icmp .ne (7), 3, 0, 0) from rfl) (by decide)).trans (by simp only [vcmp, decide_eq_true_eq, ite_not]; rfl)
theorem s44_27 : runv 44 27 ls st h = runv 44 28 ls (.int 1 :: st) h := runv_plain (x := (.iconst 1, 1, 0, 0)) rfl rfl
theorem s44_28 : runv 44 28 ls st h = runv 44 32 ls st h := runv_plain (x := (.goto (4), 3, 0, 0)) rfl rfl
theorem s44_31 : runv 44 31 ls st h = runv 44 32 ls (.int 0 :: st) h := runv_plain (x := (.iconst 0, 1, 0, 0)) rfl rfl
theorem s44_32 {a0 a1 a2 : Option Value} {x : Int32} : runv 44 32 (a0 :: a1 :: a2 :: ls) (.int x :: st) h = runv 44 33 (a0 :: a1 :: some (.int x) :: ls) st h := (runv_plain (x := (.istore_n 2, 1, 0, 0)) rfl rfl).trans (by simp only [vstep, List.length_cons, show ∀ n : Nat, 2 < n + 3 from fun n => by omega, if_true]; rfl)
theorem s44_33 {a0 a1 a2 : Option Value} {x : Int32} : runv 44 33 (a0 :: a1 :: a2 :: some (.int x) :: ls) st h = runv 44 36 (a0 :: a1 :: a2 :: some (.int (x + 1)) :: ls) st h := runv_plain (x := (.iinc 3 (1), 3, 0, 0)) rfl rfl
theorem s44_36 : runv 44 36 ls st h = runv 44 4 ls st h := runv_plain (x := (.goto (-32), 3, 0, 0)) rfl rfl
theorem s44_39 {a0 a1 : Option Value} {x : Int32} : runv 44 39 (a0 :: a1 :: some (.int x) :: ls) st h = runv 44 40 (a0 :: a1 :: some (.int x) :: ls) (.int x :: st) h := runv_plain (x := (.iload_n 2, 1, 0, 0)) rfl rfl
theorem s44_40 {x : Int32} : runv 44 40 ls (.int x :: st) h = if x = 0 then runv 44 43 ls st h else runv 44 45 ls st h := (runv_if (show vcode 44 40 = some (.ifCond .ne (5), 3, 0, 0) from rfl) (by decide)).trans (by simp only [vcmp, decide_eq_true_eq, ite_not]; rfl)
theorem s44_43 : runv 44 43 ls st h = runv 44 44 ls (.int 0 :: st) h := runv_plain (x := (.iconst 0, 1, 0, 0)) rfl rfl
theorem s44_44 {v : Int32} (hv : v &&& 1 = v) : runv 44 44 ls [.int v] h = some (some (.int v), h) := runv_ret (show vcode 44 44 = some (.ireturn, 1, 0, 0) from rfl) rfl (by simp only [vretv, show vret 44 = some .boolean from rfl, if_pos hv])
theorem s44_45 {x : Nat} : runv 44 45 (some (.ref x) :: ls) st h = runv 44 46 (some (.ref x) :: ls) (.ref x :: st) h := runv_plain (x := (.aload_n 0, 1, 0, 0)) rfl rfl
theorem s44_46 {a : Nat} : runv 44 46 ls (.ref a :: st) h = vgf h a 9 9 fun v => runv 44 49 ls (v :: st) h := runv_get (show vcode 44 46 = some (.getfield 32, 3, 9, 9) from rfl)
theorem s44_49 {x : Nat} : runv 44 49 (some (.ref x) :: ls) st h = runv 44 50 (some (.ref x) :: ls) (.ref x :: st) h := runv_plain (x := (.aload_n 0, 1, 0, 0)) rfl rfl
theorem s44_50 : runv 44 50 ls st h = runv 44 51 ls (.int 0 :: st) h := runv_plain (x := (.iconst 0, 1, 0, 0)) rfl rfl
theorem s44_51 {a0 : Option Value} {x : Int32} : runv 44 51 (a0 :: some (.int x) :: ls) st h = runv 44 52 (a0 :: some (.int x) :: ls) (.int x :: st) h := runv_plain (x := (.iload_n 1, 1, 0, 0)) rfl rfl
theorem s44_52 {a : Nat} {p0 : Int32} {p1 : Int32} (h1 : st.length ≤ 4) (h2 : vtag h a = 9) : runv 44 52 ls (.int p1 :: .int p0 :: .ref a :: st) h = vbind (callv 33 [.ref a, .int p0, .int p1] h) fun v h' => runv 44 55 ls (vpush v st) h' := runv_call (show vcode 44 52 = some (.invokevirtual 82, 3, 33, 3) from rfl) rfl (vcall_mk rfl rfl h1 (by decide) (vrecv_tag h2 (by decide)) rfl)
theorem s44_55 : runv 44 55 ls st h = runv 44 56 ls (.int 1 :: st) h := runv_plain (x := (.iconst 1, 1, 0, 0)) rfl rfl
theorem s44_56 {a : Nat} {i v : Int32} : runv 44 56 ls (.int v :: .int i :: .ref a :: st) h = vst2 h a 101 i (.int (v &&& 1)) fun h1 => runv 44 57 ls st h1 := runv_zast (show vcode 44 56 = some (.bastore, 1, 0, 0) from rfl)
theorem s44_57 {x : Nat} : runv 44 57 (some (.ref x) :: ls) st h = runv 44 58 (some (.ref x) :: ls) (.ref x :: st) h := runv_plain (x := (.aload_n 0, 1, 0, 0)) rfl rfl
theorem s44_58 : runv 44 58 ls st h = runv 44 59 ls (.int 1 :: st) h := runv_plain (x := (.iconst 1, 1, 0, 0)) rfl rfl
theorem s44_59 {a : Nat} {v : Value} : runv 44 59 ls (v :: .ref a :: st) h = vpf h a 9 10 v fun h1 => runv 44 62 ls st h1 := runv_put (show vcode 44 59 = some (.putfield 108, 3, 9, 10) from rfl)
theorem s44_62 : runv 44 62 ls st h = runv 44 63 ls (.int 1 :: st) h := runv_plain (x := (.iconst 1, 1, 0, 0)) rfl rfl
theorem s44_63 {v : Int32} (hv : v &&& 1 = v) : runv 44 63 ls [.int v] h = some (some (.int v), h) := runv_ret (show vcode 44 63 = some (.ireturn, 1, 0, 0) from rfl) rfl (by simp only [vretv, show vret 44 = some .boolean from rfl, if_pos hv])
theorem s45_0 {x : Nat} : runv 45 0 (some (.ref x) :: ls) st h = runv 45 1 (some (.ref x) :: ls) (.ref x :: st) h := runv_plain (x := (.aload_n 0, 1, 0, 0)) rfl rfl
theorem s45_1 {a : Nat} : runv 45 1 ls (.ref a :: st) h = vgf h a 9 11 fun v => runv 45 4 ls (v :: st) h := runv_get (show vcode 45 1 = some (.getfield 111, 3, 9, 11) from rfl)
theorem s45_4 : runv 45 4 ls st h = runv 45 6 ls (.int 8 :: st) h := runv_plain (x := (.bipush (8), 2, 0, 0)) rfl rfl
theorem s45_6 {x y : Int32} : runv 45 6 ls (.int y :: .int x :: st) h = if y ≤ x then runv 45 13 ls st h else runv 45 9 ls st h := (runv_icmp (show vcode 45 6 = some (.if_icmp .ge (7), 3, 0, 0) from rfl) (by decide)).trans (by simp only [vcmp, decide_eq_true_eq]; rfl)
theorem s45_9 : runv 45 9 ls st h = runv 45 10 ls (.int 1 :: st) h := runv_plain (x := (.iconst 1, 1, 0, 0)) rfl rfl
theorem s45_10 : runv 45 10 ls st h = runv 45 14 ls st h := runv_plain (x := (.goto (4), 3, 0, 0)) rfl rfl
theorem s45_13 : runv 45 13 ls st h = runv 45 14 ls (.int 0 :: st) h := runv_plain (x := (.iconst 0, 1, 0, 0)) rfl rfl
theorem s45_14 {a0 a1 a2 : Option Value} {x : Int32} : runv 45 14 (a0 :: a1 :: a2 :: ls) (.int x :: st) h = runv 45 15 (a0 :: a1 :: some (.int x) :: ls) st h := (runv_plain (x := (.istore_n 2, 1, 0, 0)) rfl rfl).trans (by simp only [vstep, List.length_cons, show ∀ n : Nat, 2 < n + 3 from fun n => by omega, if_true]; rfl)
theorem s45_15 : runv 45 15 ls st h = runv 45 16 ls (.int 0 :: st) h := runv_plain (x := (.iconst 0, 1, 0, 0)) rfl rfl
theorem s45_16 {a0 a1 a2 a3 : Option Value} {x : Int32} : runv 45 16 (a0 :: a1 :: a2 :: a3 :: ls) (.int x :: st) h = runv 45 17 (a0 :: a1 :: a2 :: some (.int x) :: ls) st h := (runv_plain (x := (.istore_n 3, 1, 0, 0)) rfl rfl).trans (by simp only [vstep, List.length_cons, show ∀ n : Nat, 3 < n + 4 from fun n => by omega, if_true]; rfl)
theorem s45_17 {a0 a1 a2 : Option Value} {x : Int32} : runv 45 17 (a0 :: a1 :: a2 :: some (.int x) :: ls) st h = runv 45 18 (a0 :: a1 :: a2 :: some (.int x) :: ls) (.int x :: st) h := runv_plain (x := (.iload_n 3, 1, 0, 0)) rfl rfl
theorem s45_18 {x : Nat} : runv 45 18 (some (.ref x) :: ls) st h = runv 45 19 (some (.ref x) :: ls) (.ref x :: st) h := runv_plain (x := (.aload_n 0, 1, 0, 0)) rfl rfl
theorem s45_19 {a : Nat} : runv 45 19 ls (.ref a :: st) h = vgf h a 9 11 fun v => runv 45 22 ls (v :: st) h := runv_get (show vcode 45 19 = some (.getfield 111, 3, 9, 11) from rfl)
theorem s45_22 {x y : Int32} : runv 45 22 ls (.int y :: .int x :: st) h = if y ≤ x then runv 45 51 ls st h else runv 45 25 ls st h := (runv_icmp (show vcode 45 22 = some (.if_icmp .ge (29), 3, 0, 0) from rfl) (by decide)).trans (by simp only [vcmp, decide_eq_true_eq]; rfl)
theorem s45_25 {a0 a1 : Option Value} {x : Int32} : runv 45 25 (a0 :: a1 :: some (.int x) :: ls) st h = runv 45 26 (a0 :: a1 :: some (.int x) :: ls) (.int x :: st) h := runv_plain (x := (.iload_n 2, 1, 0, 0)) rfl rfl
theorem s45_26 {x : Int32} : runv 45 26 ls (.int x :: st) h = if x = 0 then runv 45 43 ls st h else runv 45 29 ls st h := (runv_if (show vcode 45 26 = some (.ifCond .eq (17), 3, 0, 0) from rfl) (by decide)).trans (by simp only [vcmp, decide_eq_true_eq]; rfl)
theorem s45_29 {x : Nat} : runv 45 29 (some (.ref x) :: ls) st h = runv 45 30 (some (.ref x) :: ls) (.ref x :: st) h := runv_plain (x := (.aload_n 0, 1, 0, 0)) rfl rfl
theorem s45_30 {a : Nat} : runv 45 30 ls (.ref a :: st) h = vgf h a 9 12 fun v => runv 45 33 ls (v :: st) h := runv_get (show vcode 45 30 = some (.getfield 35, 3, 9, 12) from rfl)
theorem s45_33 {a0 a1 a2 : Option Value} {x : Int32} : runv 45 33 (a0 :: a1 :: a2 :: some (.int x) :: ls) st h = runv 45 34 (a0 :: a1 :: a2 :: some (.int x) :: ls) (.int x :: st) h := runv_plain (x := (.iload_n 3, 1, 0, 0)) rfl rfl
theorem s45_34 {a : Nat} {i : Int32} : runv 45 34 ls (.int i :: .ref a :: st) h = vld2 h a (fun t => t == 100 || t == 104) i fun v => runv 45 35 ls (v :: st) h := runv_iald (show vcode 45 34 = some (.iaload, 1, 0, 0) from rfl)
theorem s45_35 {a0 : Option Value} {x : Int32} : runv 45 35 (a0 :: some (.int x) :: ls) st h = runv 45 36 (a0 :: some (.int x) :: ls) (.int x :: st) h := runv_plain (x := (.iload_n 1, 1, 0, 0)) rfl rfl
theorem s45_36 {x y : Int32} : runv 45 36 ls (.int y :: .int x :: st) h = if x = y then runv 45 43 ls st h else runv 45 39 ls st h := (runv_icmp (show vcode 45 36 = some (.if_icmp .eq (7), 3, 0, 0) from rfl) (by decide)).trans (by simp only [vcmp, decide_eq_true_eq]; rfl)
theorem s45_39 : runv 45 39 ls st h = runv 45 40 ls (.int 1 :: st) h := runv_plain (x := (.iconst 1, 1, 0, 0)) rfl rfl
theorem s45_40 : runv 45 40 ls st h = runv 45 44 ls st h := runv_plain (x := (.goto (4), 3, 0, 0)) rfl rfl
theorem s45_43 : runv 45 43 ls st h = runv 45 44 ls (.int 0 :: st) h := runv_plain (x := (.iconst 0, 1, 0, 0)) rfl rfl
theorem s45_44 {a0 a1 a2 : Option Value} {x : Int32} : runv 45 44 (a0 :: a1 :: a2 :: ls) (.int x :: st) h = runv 45 45 (a0 :: a1 :: some (.int x) :: ls) st h := (runv_plain (x := (.istore_n 2, 1, 0, 0)) rfl rfl).trans (by simp only [vstep, List.length_cons, show ∀ n : Nat, 2 < n + 3 from fun n => by omega, if_true]; rfl)
theorem s45_45 {a0 a1 a2 : Option Value} {x : Int32} : runv 45 45 (a0 :: a1 :: a2 :: some (.int x) :: ls) st h = runv 45 48 (a0 :: a1 :: a2 :: some (.int (x + 1)) :: ls) st h := runv_plain (x := (.iinc 3 (1), 3, 0, 0)) rfl rfl
theorem s45_48 : runv 45 48 ls st h = runv 45 17 ls st h := runv_plain (x := (.goto (-31), 3, 0, 0)) rfl rfl
theorem s45_51 {a0 a1 : Option Value} {x : Int32} : runv 45 51 (a0 :: a1 :: some (.int x) :: ls) st h = runv 45 52 (a0 :: a1 :: some (.int x) :: ls) (.int x :: st) h := runv_plain (x := (.iload_n 2, 1, 0, 0)) rfl rfl
theorem s45_52 {x : Int32} : runv 45 52 ls (.int x :: st) h = if x = 0 then runv 45 55 ls st h else runv 45 57 ls st h := (runv_if (show vcode 45 52 = some (.ifCond .ne (5), 3, 0, 0) from rfl) (by decide)).trans (by simp only [vcmp, decide_eq_true_eq, ite_not]; rfl)
theorem s45_55 : runv 45 55 ls st h = runv 45 56 ls (.int 0 :: st) h := runv_plain (x := (.iconst 0, 1, 0, 0)) rfl rfl
theorem s45_56 {v : Int32} (hv : v &&& 1 = v) : runv 45 56 ls [.int v] h = some (some (.int v), h) := runv_ret (show vcode 45 56 = some (.ireturn, 1, 0, 0) from rfl) rfl (by simp only [vretv, show vret 45 = some .boolean from rfl, if_pos hv])
theorem s45_57 {x : Nat} : runv 45 57 (some (.ref x) :: ls) st h = runv 45 58 (some (.ref x) :: ls) (.ref x :: st) h := runv_plain (x := (.aload_n 0, 1, 0, 0)) rfl rfl
theorem s45_58 {a : Nat} : runv 45 58 ls (.ref a :: st) h = vgf h a 9 12 fun v => runv 45 61 ls (v :: st) h := runv_get (show vcode 45 58 = some (.getfield 35, 3, 9, 12) from rfl)
theorem s45_61 {x : Nat} : runv 45 61 (some (.ref x) :: ls) st h = runv 45 62 (some (.ref x) :: ls) (.ref x :: st) h := runv_plain (x := (.aload_n 0, 1, 0, 0)) rfl rfl
theorem s45_62 {a : Nat} : runv 45 62 ls (.ref a :: st) h = vgf h a 9 11 fun v => runv 45 65 ls (v :: st) h := runv_get (show vcode 45 62 = some (.getfield 111, 3, 9, 11) from rfl)
theorem s45_65 {a0 : Option Value} {x : Int32} : runv 45 65 (a0 :: some (.int x) :: ls) st h = runv 45 66 (a0 :: some (.int x) :: ls) (.int x :: st) h := runv_plain (x := (.iload_n 1, 1, 0, 0)) rfl rfl
theorem s45_66 {a : Nat} {i v : Int32} : runv 45 66 ls (.int v :: .int i :: .ref a :: st) h = vst2 h a 100 i (.int v) fun h1 => runv 45 67 ls st h1 := runv_iast (show vcode 45 66 = some (.iastore, 1, 0, 0) from rfl)
theorem s45_67 {x : Nat} : runv 45 67 (some (.ref x) :: ls) st h = runv 45 68 (some (.ref x) :: ls) (.ref x :: st) h := runv_plain (x := (.aload_n 0, 1, 0, 0)) rfl rfl
theorem s45_68 {x : Nat} : runv 45 68 (some (.ref x) :: ls) st h = runv 45 69 (some (.ref x) :: ls) (.ref x :: st) h := runv_plain (x := (.aload_n 0, 1, 0, 0)) rfl rfl
theorem s45_69 {a : Nat} : runv 45 69 ls (.ref a :: st) h = vgf h a 9 11 fun v => runv 45 72 ls (v :: st) h := runv_get (show vcode 45 69 = some (.getfield 111, 3, 9, 11) from rfl)
theorem s45_72 : runv 45 72 ls st h = runv 45 73 ls (.int 1 :: st) h := runv_plain (x := (.iconst 1, 1, 0, 0)) rfl rfl
theorem s45_73 {x y : Int32} : runv 45 73 ls (.int y :: .int x :: st) h = runv 45 74 ls (.int (x + y) :: st) h := runv_plain (x := (.iadd, 1, 0, 0)) rfl rfl
theorem s45_74 {a : Nat} {v : Value} : runv 45 74 ls (v :: .ref a :: st) h = vpf h a 9 11 v fun h1 => runv 45 77 ls st h1 := runv_put (show vcode 45 74 = some (.putfield 111, 3, 9, 11) from rfl)
theorem s45_77 : runv 45 77 ls st h = runv 45 78 ls (.int 1 :: st) h := runv_plain (x := (.iconst 1, 1, 0, 0)) rfl rfl
theorem s45_78 {v : Int32} (hv : v &&& 1 = v) : runv 45 78 ls [.int v] h = some (some (.int v), h) := runv_ret (show vcode 45 78 = some (.ireturn, 1, 0, 0) from rfl) rfl (by simp only [vretv, show vret 45 = some .boolean from rfl, if_pos hv])
theorem s46_0 {x : Nat} : runv 46 0 (some (.ref x) :: ls) st h = runv 46 1 (some (.ref x) :: ls) (.ref x :: st) h := runv_plain (x := (.aload_n 0, 1, 0, 0)) rfl rfl
theorem s46_1 {a : Nat} : runv 46 1 ls (.ref a :: st) h = vgf h a 9 0 fun v => runv 46 4 ls (v :: st) h := runv_get (show vcode 46 1 = some (.getfield 7, 3, 9, 0) from rfl)
theorem s46_4 {x : Nat} : runv 46 4 (some (.ref x) :: ls) st h = runv 46 5 (some (.ref x) :: ls) (.ref x :: st) h := runv_plain (x := (.aload_n 0, 1, 0, 0)) rfl rfl
theorem s46_5 {a : Nat} : runv 46 5 ls (.ref a :: st) h = vgf h a 9 1 fun v => runv 46 8 ls (v :: st) h := runv_get (show vcode 46 5 = some (.getfield 67, 3, 9, 1) from rfl)
theorem s46_8 {a0 : Option Value} {x : Int32} : runv 46 8 (a0 :: some (.int x) :: ls) st h = runv 46 9 (a0 :: some (.int x) :: ls) (.int x :: st) h := runv_plain (x := (.iload_n 1, 1, 0, 0)) rfl rfl
theorem s46_9 {a : Nat} {i v : Int32} : runv 46 9 ls (.int v :: .int i :: .ref a :: st) h = vst2 h a 100 i (.int v) fun h1 => runv 46 10 ls st h1 := runv_iast (show vcode 46 9 = some (.iastore, 1, 0, 0) from rfl)
theorem s46_10 {x : Nat} : runv 46 10 (some (.ref x) :: ls) st h = runv 46 11 (some (.ref x) :: ls) (.ref x :: st) h := runv_plain (x := (.aload_n 0, 1, 0, 0)) rfl rfl
theorem s46_11 {x : Nat} : runv 46 11 (some (.ref x) :: ls) st h = runv 46 12 (some (.ref x) :: ls) (.ref x :: st) h := runv_plain (x := (.aload_n 0, 1, 0, 0)) rfl rfl
theorem s46_12 {a : Nat} : runv 46 12 ls (.ref a :: st) h = vgf h a 9 1 fun v => runv 46 15 ls (v :: st) h := runv_get (show vcode 46 12 = some (.getfield 67, 3, 9, 1) from rfl)
theorem s46_15 : runv 46 15 ls st h = runv 46 16 ls (.int 1 :: st) h := runv_plain (x := (.iconst 1, 1, 0, 0)) rfl rfl
theorem s46_16 {x y : Int32} : runv 46 16 ls (.int y :: .int x :: st) h = runv 46 17 ls (.int (x + y) :: st) h := runv_plain (x := (.iadd, 1, 0, 0)) rfl rfl
theorem s46_17 {a : Nat} {v : Value} : runv 46 17 ls (v :: .ref a :: st) h = vpf h a 9 1 v fun h1 => runv 46 20 ls st h1 := runv_put (show vcode 46 17 = some (.putfield 67, 3, 9, 1) from rfl)
theorem s46_20 : runv 46 20 ls [] h = some (none, h) := runv_ret (show vcode 46 20 = some (.return_, 1, 0, 0) from rfl) rfl rfl
theorem s47_0 {a0 : Option Value} {x : Int32} : runv 47 0 (a0 :: some (.int x) :: ls) st h = runv 47 1 (a0 :: some (.int x) :: ls) (.int x :: st) h := runv_plain (x := (.iload_n 1, 1, 0, 0)) rfl rfl
theorem s47_1 {a0 a1 a2 : Option Value} {x : Int32} : runv 47 1 (a0 :: a1 :: a2 :: ls) (.int x :: st) h = runv 47 2 (a0 :: a1 :: some (.int x) :: ls) st h := (runv_plain (x := (.istore_n 2, 1, 0, 0)) rfl rfl).trans (by simp only [vstep, List.length_cons, show ∀ n : Nat, 2 < n + 3 from fun n => by omega, if_true]; rfl)
theorem s47_2 {a0 a1 : Option Value} {x : Int32} : runv 47 2 (a0 :: a1 :: some (.int x) :: ls) st h = runv 47 3 (a0 :: a1 :: some (.int x) :: ls) (.int x :: st) h := runv_plain (x := (.iload_n 2, 1, 0, 0)) rfl rfl
theorem s47_3 {x : Nat} : runv 47 3 (some (.ref x) :: ls) st h = runv 47 4 (some (.ref x) :: ls) (.ref x :: st) h := runv_plain (x := (.aload_n 0, 1, 0, 0)) rfl rfl
theorem s47_4 {a : Nat} : runv 47 4 ls (.ref a :: st) h = vgf h a 9 16 fun v => runv 47 7 ls (v :: st) h := runv_get (show vcode 47 4 = some (.getfield 114, 3, 9, 16) from rfl)
theorem s47_7 {x y : Int32} : runv 47 7 ls (.int y :: .int x :: st) h = if y ≤ x then runv 47 32 ls st h else runv 47 10 ls st h := (runv_icmp (show vcode 47 7 = some (.if_icmp .ge (25), 3, 0, 0) from rfl) (by decide)).trans (by simp only [vcmp, decide_eq_true_eq]; rfl)
theorem s47_10 {x : Nat} : runv 47 10 (some (.ref x) :: ls) st h = runv 47 11 (some (.ref x) :: ls) (.ref x :: st) h := runv_plain (x := (.aload_n 0, 1, 0, 0)) rfl rfl
theorem s47_11 {a : Nat} : runv 47 11 ls (.ref a :: st) h = vgf h a 9 17 fun v => runv 47 14 ls (v :: st) h := runv_get (show vcode 47 11 = some (.getfield 44, 3, 9, 17) from rfl)
theorem s47_14 {a0 a1 : Option Value} {x : Int32} : runv 47 14 (a0 :: a1 :: some (.int x) :: ls) st h = runv 47 15 (a0 :: a1 :: some (.int x) :: ls) (.int x :: st) h := runv_plain (x := (.iload_n 2, 1, 0, 0)) rfl rfl
theorem s47_15 {a : Nat} {i : Int32} : runv 47 15 ls (.int i :: .ref a :: st) h = vld2 h a (fun t => t == 100 || t == 104) i fun v => runv 47 16 ls (v :: st) h := runv_iald (show vcode 47 15 = some (.iaload, 1, 0, 0) from rfl)
theorem s47_16 {x : Nat} : runv 47 16 (some (.ref x) :: ls) st h = runv 47 17 (some (.ref x) :: ls) (.ref x :: st) h := runv_plain (x := (.aload_n 0, 1, 0, 0)) rfl rfl
theorem s47_17 {a : Nat} : runv 47 17 ls (.ref a :: st) h = vgf h a 9 17 fun v => runv 47 20 ls (v :: st) h := runv_get (show vcode 47 17 = some (.getfield 44, 3, 9, 17) from rfl)
theorem s47_20 {a0 : Option Value} {x : Int32} : runv 47 20 (a0 :: some (.int x) :: ls) st h = runv 47 21 (a0 :: some (.int x) :: ls) (.int x :: st) h := runv_plain (x := (.iload_n 1, 1, 0, 0)) rfl rfl
theorem s47_21 {a : Nat} {i : Int32} : runv 47 21 ls (.int i :: .ref a :: st) h = vld2 h a (fun t => t == 100 || t == 104) i fun v => runv 47 22 ls (v :: st) h := runv_iald (show vcode 47 21 = some (.iaload, 1, 0, 0) from rfl)
theorem s47_22 {x y : Int32} : runv 47 22 ls (.int y :: .int x :: st) h = if x = y then runv 47 25 ls st h else runv 47 32 ls st h := (runv_icmp (show vcode 47 22 = some (.if_icmp .ne (10), 3, 0, 0) from rfl) (by decide)).trans (by simp only [vcmp, decide_eq_true_eq, ite_not]; rfl)
theorem s47_25 {a0 a1 : Option Value} {x : Int32} : runv 47 25 (a0 :: a1 :: some (.int x) :: ls) st h = runv 47 26 (a0 :: a1 :: some (.int x) :: ls) (.int x :: st) h := runv_plain (x := (.iload_n 2, 1, 0, 0)) rfl rfl
theorem s47_26 : runv 47 26 ls st h = runv 47 27 ls (.int 1 :: st) h := runv_plain (x := (.iconst 1, 1, 0, 0)) rfl rfl
theorem s47_27 {x y : Int32} : runv 47 27 ls (.int y :: .int x :: st) h = runv 47 28 ls (.int (x + y) :: st) h := runv_plain (x := (.iadd, 1, 0, 0)) rfl rfl
theorem s47_28 {a0 a1 a2 : Option Value} {x : Int32} : runv 47 28 (a0 :: a1 :: a2 :: ls) (.int x :: st) h = runv 47 29 (a0 :: a1 :: some (.int x) :: ls) st h := (runv_plain (x := (.istore_n 2, 1, 0, 0)) rfl rfl).trans (by simp only [vstep, List.length_cons, show ∀ n : Nat, 2 < n + 3 from fun n => by omega, if_true]; rfl)
theorem s47_29 : runv 47 29 ls st h = runv 47 2 ls st h := runv_plain (x := (.goto (-27), 3, 0, 0)) rfl rfl
theorem s47_32 {a0 a1 : Option Value} {x : Int32} : runv 47 32 (a0 :: a1 :: some (.int x) :: ls) st h = runv 47 33 (a0 :: a1 :: some (.int x) :: ls) (.int x :: st) h := runv_plain (x := (.iload_n 2, 1, 0, 0)) rfl rfl
theorem s47_33 {a0 : Option Value} {x : Int32} : runv 47 33 (a0 :: some (.int x) :: ls) st h = runv 47 34 (a0 :: some (.int x) :: ls) (.int x :: st) h := runv_plain (x := (.iload_n 1, 1, 0, 0)) rfl rfl
theorem s47_34 {x y : Int32} : runv 47 34 ls (.int y :: .int x :: st) h = runv 47 35 ls (.int (x - y) :: st) h := runv_plain (x := (.isub, 1, 0, 0)) rfl rfl
theorem s47_35 {v : Int32} : runv 47 35 ls [.int v] h = some (some (.int v), h) := runv_ret (show vcode 47 35 = some (.ireturn, 1, 0, 0) from rfl) rfl rfl
theorem s48_0 : runv 48 0 ls st h = runv 48 1 ls (.int 0 :: st) h := runv_plain (x := (.iconst 0, 1, 0, 0)) rfl rfl
theorem s48_1 {a0 a1 : Option Value} {x : Int32} : runv 48 1 (a0 :: a1 :: ls) (.int x :: st) h = runv 48 2 (a0 :: some (.int x) :: ls) st h := (runv_plain (x := (.istore_n 1, 1, 0, 0)) rfl rfl).trans (by simp only [vstep, List.length_cons, show ∀ n : Nat, 1 < n + 2 from fun n => by omega, if_true]; rfl)
theorem s48_2 {a0 : Option Value} {x : Int32} : runv 48 2 (a0 :: some (.int x) :: ls) st h = runv 48 3 (a0 :: some (.int x) :: ls) (.int x :: st) h := runv_plain (x := (.iload_n 1, 1, 0, 0)) rfl rfl
theorem s48_3 {x : Nat} : runv 48 3 (some (.ref x) :: ls) st h = runv 48 4 (some (.ref x) :: ls) (.ref x :: st) h := runv_plain (x := (.aload_n 0, 1, 0, 0)) rfl rfl
theorem s48_4 {a : Nat} : runv 48 4 ls (.ref a :: st) h = vgf h a 9 16 fun v => runv 48 7 ls (v :: st) h := runv_get (show vcode 48 4 = some (.getfield 114, 3, 9, 16) from rfl)
theorem s48_7 {x y : Int32} : runv 48 7 ls (.int y :: .int x :: st) h = if y ≤ x then runv 48 136 ls st h else runv 48 10 ls st h := (runv_icmp (show vcode 48 7 = some (.if_icmp .ge (129), 3, 0, 0) from rfl) (by decide)).trans (by simp only [vcmp, decide_eq_true_eq]; rfl)
theorem s48_10 {x : Nat} : runv 48 10 (some (.ref x) :: ls) st h = runv 48 11 (some (.ref x) :: ls) (.ref x :: st) h := runv_plain (x := (.aload_n 0, 1, 0, 0)) rfl rfl
theorem s48_11 {a0 : Option Value} {x : Int32} : runv 48 11 (a0 :: some (.int x) :: ls) st h = runv 48 12 (a0 :: some (.int x) :: ls) (.int x :: st) h := runv_plain (x := (.iload_n 1, 1, 0, 0)) rfl rfl
theorem s48_12 {a : Nat} {p0 : Int32} (h1 : st.length ≤ 4) (h2 : vtag h a = 9) : runv 48 12 ls (.int p0 :: .ref a :: st) h = vbind (callv 47 [.ref a, .int p0] h) fun v h' => runv 48 15 ls (vpush v st) h' := runv_call (show vcode 48 12 = some (.invokevirtual 117, 3, 47, 2) from rfl) rfl (vcall_mk rfl rfl h1 (by decide) (vrecv_tag h2 (by decide)) rfl)
theorem s48_15 {a0 a1 a2 : Option Value} {x : Int32} : runv 48 15 (a0 :: a1 :: a2 :: ls) (.int x :: st) h = runv 48 16 (a0 :: a1 :: some (.int x) :: ls) st h := (runv_plain (x := (.istore_n 2, 1, 0, 0)) rfl rfl).trans (by simp only [vstep, List.length_cons, show ∀ n : Nat, 2 < n + 3 from fun n => by omega, if_true]; rfl)
theorem s48_16 {a0 a1 : Option Value} {x : Int32} : runv 48 16 (a0 :: a1 :: some (.int x) :: ls) st h = runv 48 17 (a0 :: a1 :: some (.int x) :: ls) (.int x :: st) h := runv_plain (x := (.iload_n 2, 1, 0, 0)) rfl rfl
theorem s48_17 : runv 48 17 ls st h = runv 48 18 ls (.int 3 :: st) h := runv_plain (x := (.iconst 3, 1, 0, 0)) rfl rfl
theorem s48_18 {x y : Int32} : runv 48 18 ls (.int y :: .int x :: st) h = if x < y then runv 48 61 ls st h else runv 48 21 ls st h := (runv_icmp (show vcode 48 18 = some (.if_icmp .lt (43), 3, 0, 0) from rfl) (by decide)).trans (by simp only [vcmp, decide_eq_true_eq]; rfl)
theorem s48_21 {a0 a1 : Option Value} {x : Int32} : runv 48 21 (a0 :: a1 :: some (.int x) :: ls) st h = runv 48 22 (a0 :: a1 :: some (.int x) :: ls) (.int x :: st) h := runv_plain (x := (.iload_n 2, 1, 0, 0)) rfl rfl
theorem s48_22 : runv 48 22 ls st h = runv 48 25 ls (.int 130 :: st) h := runv_plain (x := (.sipush (130), 3, 0, 0)) rfl rfl
theorem s48_25 {x y : Int32} : runv 48 25 ls (.int y :: .int x :: st) h = if x ≤ y then runv 48 34 ls st h else runv 48 28 ls st h := (runv_icmp (show vcode 48 25 = some (.if_icmp .le (9), 3, 0, 0) from rfl) (by decide)).trans (by simp only [vcmp, decide_eq_true_eq]; rfl)
theorem s48_28 : runv 48 28 ls st h = runv 48 31 ls (.int 130 :: st) h := runv_plain (x := (.sipush (130), 3, 0, 0)) rfl rfl
theorem s48_31 : runv 48 31 ls st h = runv 48 35 ls st h := runv_plain (x := (.goto (4), 3, 0, 0)) rfl rfl
theorem s48_34 {a0 a1 : Option Value} {x : Int32} : runv 48 34 (a0 :: a1 :: some (.int x) :: ls) st h = runv 48 35 (a0 :: a1 :: some (.int x) :: ls) (.int x :: st) h := runv_plain (x := (.iload_n 2, 1, 0, 0)) rfl rfl
theorem s48_35 {a0 a1 a2 : Option Value} {x : Int32} : runv 48 35 (a0 :: a1 :: a2 :: ls) (.int x :: st) h = runv 48 36 (a0 :: a1 :: some (.int x) :: ls) st h := (runv_plain (x := (.istore_n 2, 1, 0, 0)) rfl rfl).trans (by simp only [vstep, List.length_cons, show ∀ n : Nat, 2 < n + 3 from fun n => by omega, if_true]; rfl)
theorem s48_36 {x : Nat} : runv 48 36 (some (.ref x) :: ls) st h = runv 48 37 (some (.ref x) :: ls) (.ref x :: st) h := runv_plain (x := (.aload_n 0, 1, 0, 0)) rfl rfl
theorem s48_37 {a0 a1 : Option Value} {x : Int32} : runv 48 37 (a0 :: a1 :: some (.int x) :: ls) st h = runv 48 38 (a0 :: a1 :: some (.int x) :: ls) (.int x :: st) h := runv_plain (x := (.iload_n 2, 1, 0, 0)) rfl rfl
theorem s48_38 : runv 48 38 ls st h = runv 48 40 ls (.int 125 :: st) h := runv_plain (x := (.bipush (125), 2, 0, 0)) rfl rfl
theorem s48_40 {x y : Int32} : runv 48 40 ls (.int y :: .int x :: st) h = runv 48 41 ls (.int (x + y) :: st) h := runv_plain (x := (.iadd, 1, 0, 0)) rfl rfl
theorem s48_41 {a : Nat} {p0 : Int32} (h1 : st.length ≤ 4) (h2 : vtag h a = 9) : runv 48 41 ls (.int p0 :: .ref a :: st) h = vbind (callv 46 [.ref a, .int p0] h) fun v h' => runv 48 44 ls (vpush v st) h' := runv_call (show vcode 48 41 = some (.invokevirtual 120, 3, 46, 2) from rfl) rfl (vcall_mk rfl rfl h1 (by decide) (vrecv_tag h2 (by decide)) rfl)
theorem s48_44 {x : Nat} : runv 48 44 (some (.ref x) :: ls) st h = runv 48 45 (some (.ref x) :: ls) (.ref x :: st) h := runv_plain (x := (.aload_n 0, 1, 0, 0)) rfl rfl
theorem s48_45 {x : Nat} : runv 48 45 (some (.ref x) :: ls) st h = runv 48 46 (some (.ref x) :: ls) (.ref x :: st) h := runv_plain (x := (.aload_n 0, 1, 0, 0)) rfl rfl
theorem s48_46 {a : Nat} : runv 48 46 ls (.ref a :: st) h = vgf h a 9 17 fun v => runv 48 49 ls (v :: st) h := runv_get (show vcode 48 46 = some (.getfield 44, 3, 9, 17) from rfl)
theorem s48_49 {a0 : Option Value} {x : Int32} : runv 48 49 (a0 :: some (.int x) :: ls) st h = runv 48 50 (a0 :: some (.int x) :: ls) (.int x :: st) h := runv_plain (x := (.iload_n 1, 1, 0, 0)) rfl rfl
theorem s48_50 {a : Nat} {i : Int32} : runv 48 50 ls (.int i :: .ref a :: st) h = vld2 h a (fun t => t == 100 || t == 104) i fun v => runv 48 51 ls (v :: st) h := runv_iald (show vcode 48 50 = some (.iaload, 1, 0, 0) from rfl)
theorem s48_51 {a : Nat} {p0 : Int32} (h1 : st.length ≤ 4) (h2 : vtag h a = 9) : runv 48 51 ls (.int p0 :: .ref a :: st) h = vbind (callv 46 [.ref a, .int p0] h) fun v h' => runv 48 54 ls (vpush v st) h' := runv_call (show vcode 48 51 = some (.invokevirtual 120, 3, 46, 2) from rfl) rfl (vcall_mk rfl rfl h1 (by decide) (vrecv_tag h2 (by decide)) rfl)
theorem s48_54 {a0 : Option Value} {x : Int32} : runv 48 54 (a0 :: some (.int x) :: ls) st h = runv 48 55 (a0 :: some (.int x) :: ls) (.int x :: st) h := runv_plain (x := (.iload_n 1, 1, 0, 0)) rfl rfl
theorem s48_55 {a0 a1 : Option Value} {x : Int32} : runv 48 55 (a0 :: a1 :: some (.int x) :: ls) st h = runv 48 56 (a0 :: a1 :: some (.int x) :: ls) (.int x :: st) h := runv_plain (x := (.iload_n 2, 1, 0, 0)) rfl rfl
theorem s48_56 {x y : Int32} : runv 48 56 ls (.int y :: .int x :: st) h = runv 48 57 ls (.int (x + y) :: st) h := runv_plain (x := (.iadd, 1, 0, 0)) rfl rfl
theorem s48_57 {a0 a1 : Option Value} {x : Int32} : runv 48 57 (a0 :: a1 :: ls) (.int x :: st) h = runv 48 58 (a0 :: some (.int x) :: ls) st h := (runv_plain (x := (.istore_n 1, 1, 0, 0)) rfl rfl).trans (by simp only [vstep, List.length_cons, show ∀ n : Nat, 1 < n + 2 from fun n => by omega, if_true]; rfl)
theorem s48_58 : runv 48 58 ls st h = runv 48 133 ls st h := runv_plain (x := (.goto (75), 3, 0, 0)) rfl rfl
theorem s48_61 {a0 : Option Value} {x : Int32} : runv 48 61 (a0 :: some (.int x) :: ls) st h = runv 48 62 (a0 :: some (.int x) :: ls) (.int x :: st) h := runv_plain (x := (.iload_n 1, 1, 0, 0)) rfl rfl
theorem s48_62 {a0 a1 a2 a3 : Option Value} {x : Int32} : runv 48 62 (a0 :: a1 :: a2 :: a3 :: ls) (.int x :: st) h = runv 48 63 (a0 :: a1 :: a2 :: some (.int x) :: ls) st h := (runv_plain (x := (.istore_n 3, 1, 0, 0)) rfl rfl).trans (by simp only [vstep, List.length_cons, show ∀ n : Nat, 3 < n + 4 from fun n => by omega, if_true]; rfl)
theorem s48_63 {a0 a1 a2 : Option Value} {x : Int32} : runv 48 63 (a0 :: a1 :: a2 :: some (.int x) :: ls) st h = runv 48 64 (a0 :: a1 :: a2 :: some (.int x) :: ls) (.int x :: st) h := runv_plain (x := (.iload_n 3, 1, 0, 0)) rfl rfl
theorem s48_64 {x : Nat} : runv 48 64 (some (.ref x) :: ls) st h = runv 48 65 (some (.ref x) :: ls) (.ref x :: st) h := runv_plain (x := (.aload_n 0, 1, 0, 0)) rfl rfl
theorem s48_65 {a : Nat} : runv 48 65 ls (.ref a :: st) h = vgf h a 9 16 fun v => runv 48 68 ls (v :: st) h := runv_get (show vcode 48 65 = some (.getfield 114, 3, 9, 16) from rfl)
theorem s48_68 {x y : Int32} : runv 48 68 ls (.int y :: .int x :: st) h = if y ≤ x then runv 48 96 ls st h else runv 48 71 ls st h := (runv_icmp (show vcode 48 68 = some (.if_icmp .ge (28), 3, 0, 0) from rfl) (by decide)).trans (by simp only [vcmp, decide_eq_true_eq]; rfl)
theorem s48_71 {a0 a1 a2 : Option Value} {x : Int32} : runv 48 71 (a0 :: a1 :: a2 :: some (.int x) :: ls) st h = runv 48 72 (a0 :: a1 :: a2 :: some (.int x) :: ls) (.int x :: st) h := runv_plain (x := (.iload_n 3, 1, 0, 0)) rfl rfl
theorem s48_72 {a0 : Option Value} {x : Int32} : runv 48 72 (a0 :: some (.int x) :: ls) st h = runv 48 73 (a0 :: some (.int x) :: ls) (.int x :: st) h := runv_plain (x := (.iload_n 1, 1, 0, 0)) rfl rfl
theorem s48_73 {x y : Int32} : runv 48 73 ls (.int y :: .int x :: st) h = runv 48 74 ls (.int (x - y) :: st) h := runv_plain (x := (.isub, 1, 0, 0)) rfl rfl
theorem s48_74 : runv 48 74 ls st h = runv 48 77 ls (.int 128 :: st) h := runv_plain (x := (.sipush (128), 3, 0, 0)) rfl rfl
theorem s48_77 {x y : Int32} : runv 48 77 ls (.int y :: .int x :: st) h = if y ≤ x then runv 48 96 ls st h else runv 48 80 ls st h := (runv_icmp (show vcode 48 77 = some (.if_icmp .ge (19), 3, 0, 0) from rfl) (by decide)).trans (by simp only [vcmp, decide_eq_true_eq]; rfl)
theorem s48_80 {x : Nat} : runv 48 80 (some (.ref x) :: ls) st h = runv 48 81 (some (.ref x) :: ls) (.ref x :: st) h := runv_plain (x := (.aload_n 0, 1, 0, 0)) rfl rfl
theorem s48_81 {a0 a1 a2 : Option Value} {x : Int32} : runv 48 81 (a0 :: a1 :: a2 :: some (.int x) :: ls) st h = runv 48 82 (a0 :: a1 :: a2 :: some (.int x) :: ls) (.int x :: st) h := runv_plain (x := (.iload_n 3, 1, 0, 0)) rfl rfl
theorem s48_82 {a : Nat} {p0 : Int32} (h1 : st.length ≤ 4) (h2 : vtag h a = 9) : runv 48 82 ls (.int p0 :: .ref a :: st) h = vbind (callv 47 [.ref a, .int p0] h) fun v h' => runv 48 85 ls (vpush v st) h' := runv_call (show vcode 48 82 = some (.invokevirtual 117, 3, 47, 2) from rfl) rfl (vcall_mk rfl rfl h1 (by decide) (vrecv_tag h2 (by decide)) rfl)
theorem s48_85 : runv 48 85 ls st h = runv 48 86 ls (.int 3 :: st) h := runv_plain (x := (.iconst 3, 1, 0, 0)) rfl rfl
theorem s48_86 {x y : Int32} : runv 48 86 ls (.int y :: .int x :: st) h = if y ≤ x then runv 48 96 ls st h else runv 48 89 ls st h := (runv_icmp (show vcode 48 86 = some (.if_icmp .ge (10), 3, 0, 0) from rfl) (by decide)).trans (by simp only [vcmp, decide_eq_true_eq]; rfl)
theorem s48_89 {a0 a1 a2 : Option Value} {x : Int32} : runv 48 89 (a0 :: a1 :: a2 :: some (.int x) :: ls) st h = runv 48 90 (a0 :: a1 :: a2 :: some (.int x) :: ls) (.int x :: st) h := runv_plain (x := (.iload_n 3, 1, 0, 0)) rfl rfl
theorem s48_90 : runv 48 90 ls st h = runv 48 91 ls (.int 1 :: st) h := runv_plain (x := (.iconst 1, 1, 0, 0)) rfl rfl
theorem s48_91 {x y : Int32} : runv 48 91 ls (.int y :: .int x :: st) h = runv 48 92 ls (.int (x + y) :: st) h := runv_plain (x := (.iadd, 1, 0, 0)) rfl rfl
theorem s48_92 {a0 a1 a2 a3 : Option Value} {x : Int32} : runv 48 92 (a0 :: a1 :: a2 :: a3 :: ls) (.int x :: st) h = runv 48 93 (a0 :: a1 :: a2 :: some (.int x) :: ls) st h := (runv_plain (x := (.istore_n 3, 1, 0, 0)) rfl rfl).trans (by simp only [vstep, List.length_cons, show ∀ n : Nat, 3 < n + 4 from fun n => by omega, if_true]; rfl)
theorem s48_93 : runv 48 93 ls st h = runv 48 63 ls st h := runv_plain (x := (.goto (-30), 3, 0, 0)) rfl rfl
theorem s48_96 {x : Nat} : runv 48 96 (some (.ref x) :: ls) st h = runv 48 97 (some (.ref x) :: ls) (.ref x :: st) h := runv_plain (x := (.aload_n 0, 1, 0, 0)) rfl rfl
theorem s48_97 {a0 a1 a2 : Option Value} {x : Int32} : runv 48 97 (a0 :: a1 :: a2 :: some (.int x) :: ls) st h = runv 48 98 (a0 :: a1 :: a2 :: some (.int x) :: ls) (.int x :: st) h := runv_plain (x := (.iload_n 3, 1, 0, 0)) rfl rfl
theorem s48_98 {a0 : Option Value} {x : Int32} : runv 48 98 (a0 :: some (.int x) :: ls) st h = runv 48 99 (a0 :: some (.int x) :: ls) (.int x :: st) h := runv_plain (x := (.iload_n 1, 1, 0, 0)) rfl rfl
theorem s48_99 {x y : Int32} : runv 48 99 ls (.int y :: .int x :: st) h = runv 48 100 ls (.int (x - y) :: st) h := runv_plain (x := (.isub, 1, 0, 0)) rfl rfl
theorem s48_100 : runv 48 100 ls st h = runv 48 101 ls (.int 1 :: st) h := runv_plain (x := (.iconst 1, 1, 0, 0)) rfl rfl
theorem s48_101 {x y : Int32} : runv 48 101 ls (.int y :: .int x :: st) h = runv 48 102 ls (.int (x - y) :: st) h := runv_plain (x := (.isub, 1, 0, 0)) rfl rfl
theorem s48_102 {a : Nat} {p0 : Int32} (h1 : st.length ≤ 4) (h2 : vtag h a = 9) : runv 48 102 ls (.int p0 :: .ref a :: st) h = vbind (callv 46 [.ref a, .int p0] h) fun v h' => runv 48 105 ls (vpush v st) h' := runv_call (show vcode 48 102 = some (.invokevirtual 120, 3, 46, 2) from rfl) rfl (vcall_mk rfl rfl h1 (by decide) (vrecv_tag h2 (by decide)) rfl)
theorem s48_105 {a0 : Option Value} {x : Int32} : runv 48 105 (a0 :: some (.int x) :: ls) st h = runv 48 106 (a0 :: some (.int x) :: ls) (.int x :: st) h := runv_plain (x := (.iload_n 1, 1, 0, 0)) rfl rfl
theorem s48_106 {a0 a1 a2 a3 a4 : Option Value} {x : Int32} : runv 48 106 (a0 :: a1 :: a2 :: a3 :: a4 :: ls) (.int x :: st) h = runv 48 108 (a0 :: a1 :: a2 :: a3 :: some (.int x) :: ls) st h := (runv_plain (x := (.istore 4, 2, 0, 0)) rfl rfl).trans (by simp only [vstep, List.length_cons, show ∀ n : Nat, 4 < n + 5 from fun n => by omega, if_true]; rfl)
theorem s48_108 {a0 a1 a2 a3 : Option Value} {x : Int32} : runv 48 108 (a0 :: a1 :: a2 :: a3 :: some (.int x) :: ls) st h = runv 48 110 (a0 :: a1 :: a2 :: a3 :: some (.int x) :: ls) (.int x :: st) h := runv_plain (x := (.iload 4, 2, 0, 0)) rfl rfl
theorem s48_110 {a0 a1 a2 : Option Value} {x : Int32} : runv 48 110 (a0 :: a1 :: a2 :: some (.int x) :: ls) st h = runv 48 111 (a0 :: a1 :: a2 :: some (.int x) :: ls) (.int x :: st) h := runv_plain (x := (.iload_n 3, 1, 0, 0)) rfl rfl
theorem s48_111 {x y : Int32} : runv 48 111 ls (.int y :: .int x :: st) h = if y ≤ x then runv 48 131 ls st h else runv 48 114 ls st h := (runv_icmp (show vcode 48 111 = some (.if_icmp .ge (20), 3, 0, 0) from rfl) (by decide)).trans (by simp only [vcmp, decide_eq_true_eq]; rfl)
theorem s48_114 {x : Nat} : runv 48 114 (some (.ref x) :: ls) st h = runv 48 115 (some (.ref x) :: ls) (.ref x :: st) h := runv_plain (x := (.aload_n 0, 1, 0, 0)) rfl rfl
theorem s48_115 {x : Nat} : runv 48 115 (some (.ref x) :: ls) st h = runv 48 116 (some (.ref x) :: ls) (.ref x :: st) h := runv_plain (x := (.aload_n 0, 1, 0, 0)) rfl rfl
theorem s48_116 {a : Nat} : runv 48 116 ls (.ref a :: st) h = vgf h a 9 17 fun v => runv 48 119 ls (v :: st) h := runv_get (show vcode 48 116 = some (.getfield 44, 3, 9, 17) from rfl)
theorem s48_119 {a0 a1 a2 a3 : Option Value} {x : Int32} : runv 48 119 (a0 :: a1 :: a2 :: a3 :: some (.int x) :: ls) st h = runv 48 121 (a0 :: a1 :: a2 :: a3 :: some (.int x) :: ls) (.int x :: st) h := runv_plain (x := (.iload 4, 2, 0, 0)) rfl rfl
theorem s48_121 {a : Nat} {i : Int32} : runv 48 121 ls (.int i :: .ref a :: st) h = vld2 h a (fun t => t == 100 || t == 104) i fun v => runv 48 122 ls (v :: st) h := runv_iald (show vcode 48 121 = some (.iaload, 1, 0, 0) from rfl)
theorem s48_122 {a : Nat} {p0 : Int32} (h1 : st.length ≤ 4) (h2 : vtag h a = 9) : runv 48 122 ls (.int p0 :: .ref a :: st) h = vbind (callv 46 [.ref a, .int p0] h) fun v h' => runv 48 125 ls (vpush v st) h' := runv_call (show vcode 48 122 = some (.invokevirtual 120, 3, 46, 2) from rfl) rfl (vcall_mk rfl rfl h1 (by decide) (vrecv_tag h2 (by decide)) rfl)
theorem s48_125 {a0 a1 a2 a3 : Option Value} {x : Int32} : runv 48 125 (a0 :: a1 :: a2 :: a3 :: some (.int x) :: ls) st h = runv 48 128 (a0 :: a1 :: a2 :: a3 :: some (.int (x + 1)) :: ls) st h := runv_plain (x := (.iinc 4 (1), 3, 0, 0)) rfl rfl
theorem s48_128 : runv 48 128 ls st h = runv 48 108 ls st h := runv_plain (x := (.goto (-20), 3, 0, 0)) rfl rfl
theorem s48_131 {a0 a1 a2 : Option Value} {x : Int32} : runv 48 131 (a0 :: a1 :: a2 :: some (.int x) :: ls) st h = runv 48 132 (a0 :: a1 :: a2 :: some (.int x) :: ls) (.int x :: st) h := runv_plain (x := (.iload_n 3, 1, 0, 0)) rfl rfl
theorem s48_132 {a0 a1 : Option Value} {x : Int32} : runv 48 132 (a0 :: a1 :: ls) (.int x :: st) h = runv 48 133 (a0 :: some (.int x) :: ls) st h := (runv_plain (x := (.istore_n 1, 1, 0, 0)) rfl rfl).trans (by simp only [vstep, List.length_cons, show ∀ n : Nat, 1 < n + 2 from fun n => by omega, if_true]; rfl)
theorem s48_133 : runv 48 133 ls st h = runv 48 2 ls st h := runv_plain (x := (.goto (-131), 3, 0, 0)) rfl rfl
theorem s48_136 : runv 48 136 ls [] h = some (none, h) := runv_ret (show vcode 48 136 = some (.return_, 1, 0, 0) from rfl) rfl rfl
theorem s49_0 {x : Nat} : runv 49 0 (some (.ref x) :: ls) st h = runv 49 1 (some (.ref x) :: ls) (.ref x :: st) h := runv_plain (x := (.aload_n 0, 1, 0, 0)) rfl rfl
theorem s49_1 {a : Nat} : runv 49 1 ls (.ref a :: st) h = vgf h a 9 17 fun v => runv 49 4 ls (v :: st) h := runv_get (show vcode 49 1 = some (.getfield 44, 3, 9, 17) from rfl)
theorem s49_4 {x : Nat} : runv 49 4 (some (.ref x) :: ls) st h = runv 49 5 (some (.ref x) :: ls) (.ref x :: st) h := runv_plain (x := (.aload_n 0, 1, 0, 0)) rfl rfl
theorem s49_5 {a : Nat} : runv 49 5 ls (.ref a :: st) h = vgf h a 9 16 fun v => runv 49 8 ls (v :: st) h := runv_get (show vcode 49 5 = some (.getfield 114, 3, 9, 16) from rfl)
theorem s49_8 {a0 : Option Value} {x : Int32} : runv 49 8 (a0 :: some (.int x) :: ls) st h = runv 49 9 (a0 :: some (.int x) :: ls) (.int x :: st) h := runv_plain (x := (.iload_n 1, 1, 0, 0)) rfl rfl
theorem s49_9 {a : Nat} {i v : Int32} : runv 49 9 ls (.int v :: .int i :: .ref a :: st) h = vst2 h a 100 i (.int v) fun h1 => runv 49 10 ls st h1 := runv_iast (show vcode 49 9 = some (.iastore, 1, 0, 0) from rfl)
theorem s49_10 {x : Nat} : runv 49 10 (some (.ref x) :: ls) st h = runv 49 11 (some (.ref x) :: ls) (.ref x :: st) h := runv_plain (x := (.aload_n 0, 1, 0, 0)) rfl rfl
theorem s49_11 {x : Nat} : runv 49 11 (some (.ref x) :: ls) st h = runv 49 12 (some (.ref x) :: ls) (.ref x :: st) h := runv_plain (x := (.aload_n 0, 1, 0, 0)) rfl rfl
theorem s49_12 {a : Nat} : runv 49 12 ls (.ref a :: st) h = vgf h a 9 16 fun v => runv 49 15 ls (v :: st) h := runv_get (show vcode 49 12 = some (.getfield 114, 3, 9, 16) from rfl)
theorem s49_15 : runv 49 15 ls st h = runv 49 16 ls (.int 1 :: st) h := runv_plain (x := (.iconst 1, 1, 0, 0)) rfl rfl
theorem s49_16 {x y : Int32} : runv 49 16 ls (.int y :: .int x :: st) h = runv 49 17 ls (.int (x + y) :: st) h := runv_plain (x := (.iadd, 1, 0, 0)) rfl rfl
theorem s49_17 {a : Nat} {v : Value} : runv 49 17 ls (v :: .ref a :: st) h = vpf h a 9 16 v fun h1 => runv 49 20 ls st h1 := runv_put (show vcode 49 17 = some (.putfield 114, 3, 9, 16) from rfl)
theorem s49_20 : runv 49 20 ls [] h = some (none, h) := runv_ret (show vcode 49 20 = some (.return_, 1, 0, 0) from rfl) rfl rfl
end SROWS
