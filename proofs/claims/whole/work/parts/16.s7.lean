/-! a row for each instruction (by program, wip/whole/gen2.py) -/
section SROWS
variable {ls : vL} {st : List Value} {h : vH}
set_option maxRecDepth 20000 in
theorem s166_3 {x : Int32} : runv 166 3 ls (.int x :: st) h = runv 166 4 ls (.int x :: .int x :: st) h := runv_plain (x := (.dup, 1, 0, 0)) rfl rfl
set_option maxRecDepth 20000 in
theorem r166_3 {x : Nat} : runv 166 3 ls (.ref x :: st) h = runv 166 4 ls (.ref x :: .ref x :: st) h := runv_plain (x := (.dup, 1, 0, 0)) rfl rfl
set_option maxRecDepth 20000 in
theorem s166_4 {a : Nat} (h1 : st.length ≤ 4) : runv 166 4 ls (.ref a :: st) h = vbind (callv 0 [.ref a] h) fun v h' => runv 166 7 ls (vpush v st) h' := runv_call (show vcode 166 4 = some (.invokespecial 9, 3, 0, 1) from rfl) rfl (vcall_mk rfl rfl h1 (by decide) rfl rfl)
set_option maxRecDepth 20000 in
theorem s166_7 {a0 a1 : Option Value} {x : Nat} : runv 166 7 (a0 :: a1 :: ls) (.ref x :: st) h = runv 166 8 (a0 :: some (.ref x) :: ls) st h := (runv_plain (x := (.astore_n 1, 1, 0, 0)) rfl rfl).trans (by simp only [vstep, List.length_cons, show ∀ n : Nat, 1 < n + 2 from fun n => by omega, if_true]; rfl)
set_option maxRecDepth 20000 in
theorem s166_11 {x : Int32} : runv 166 11 ls (.int x :: st) h = runv 166 12 ls (.int x :: .int x :: st) h := runv_plain (x := (.dup, 1, 0, 0)) rfl rfl
set_option maxRecDepth 20000 in
theorem r166_11 {x : Nat} : runv 166 11 ls (.ref x :: st) h = runv 166 12 ls (.ref x :: .ref x :: st) h := runv_plain (x := (.dup, 1, 0, 0)) rfl rfl
set_option maxRecDepth 20000 in
theorem s166_12 {a : Nat} (h1 : st.length ≤ 4) : runv 166 12 ls (.ref a :: st) h = vbind (callv 23 [.ref a] h) fun v h' => runv 166 15 ls (vpush v st) h' := runv_call (show vcode 166 12 = some (.invokespecial 12, 3, 23, 1) from rfl) rfl (vcall_mk rfl rfl h1 (by decide) rfl rfl)
set_option maxRecDepth 20000 in
theorem s166_15 {a0 a1 a2 : Option Value} {x : Nat} : runv 166 15 (a0 :: a1 :: a2 :: ls) (.ref x :: st) h = runv 166 16 (a0 :: a1 :: some (.ref x) :: ls) st h := (runv_plain (x := (.astore_n 2, 1, 0, 0)) rfl rfl).trans (by simp only [vstep, List.length_cons, show ∀ n : Nat, 2 < n + 3 from fun n => by omega, if_true]; rfl)
set_option maxRecDepth 20000 in
theorem s166_16 : runv 166 16 ls st h = runv 166 17 ls (.int 0 :: st) h := runv_plain (x := (.iconst 0, 1, 0, 0)) rfl rfl
set_option maxRecDepth 20000 in
theorem s166_17 {a0 a1 a2 a3 : Option Value} {x : Int32} : runv 166 17 (a0 :: a1 :: a2 :: a3 :: ls) (.int x :: st) h = runv 166 18 (a0 :: a1 :: a2 :: some (.int x) :: ls) st h := (runv_plain (x := (.istore_n 3, 1, 0, 0)) rfl rfl).trans (by simp only [vstep, List.length_cons, show ∀ n : Nat, 3 < n + 4 from fun n => by omega, if_true]; rfl)
set_option maxRecDepth 20000 in
theorem s166_18 {a0 a1 a2 : Option Value} {x : Int32} : runv 166 18 (a0 :: a1 :: a2 :: some (.int x) :: ls) st h = runv 166 19 (a0 :: a1 :: a2 :: some (.int x) :: ls) (.int x :: st) h := runv_plain (x := (.iload_n 3, 1, 0, 0)) rfl rfl
set_option maxRecDepth 20000 in
theorem s166_19 {x : Nat} : runv 166 19 (some (.ref x) :: ls) st h = runv 166 20 (some (.ref x) :: ls) (.ref x :: st) h := runv_plain (x := (.aload_n 0, 1, 0, 0)) rfl rfl
set_option maxRecDepth 20000 in
theorem s166_20 {a : Nat} : runv 166 20 ls (.ref a :: st) h = vlen2 h a fun v => runv 166 21 ls (v :: st) h := runv_alen (show vcode 166 20 = some (.arraylength, 1, 0, 0) from rfl)
set_option maxRecDepth 20000 in
theorem s166_21 : runv 166 21 ls st h = runv 166 22 ls (.int 4 :: st) h := runv_plain (x := (.iconst 4, 1, 0, 0)) rfl rfl
set_option maxRecDepth 20000 in
theorem s166_22 {x y : Int32} : runv 166 22 ls (.int y :: .int x :: st) h = runv 166 23 ls (.int (x - y) :: st) h := runv_plain (x := (.isub, 1, 0, 0)) rfl rfl
set_option maxRecDepth 20000 in
theorem s166_23 {x y : Int32} : runv 166 23 ls (.int y :: .int x :: st) h = if y < x then runv 166 580 ls st h else runv 166 26 ls st h := (runv_icmp (show vcode 166 23 = some (.if_icmp .gt (557), 3, 0, 0) from rfl) (by decide)).trans (by simp only [vcmp, decide_eq_true_eq]; rfl)
set_option maxRecDepth 20000 in
theorem s166_26 {x : Nat} : runv 166 26 (some (.ref x) :: ls) st h = runv 166 27 (some (.ref x) :: ls) (.ref x :: st) h := runv_plain (x := (.aload_n 0, 1, 0, 0)) rfl rfl
set_option maxRecDepth 20000 in
theorem s166_27 {a0 a1 a2 : Option Value} {x : Int32} : runv 166 27 (a0 :: a1 :: a2 :: some (.int x) :: ls) st h = runv 166 28 (a0 :: a1 :: a2 :: some (.int x) :: ls) (.int x :: st) h := runv_plain (x := (.iload_n 3, 1, 0, 0)) rfl rfl
set_option maxRecDepth 20000 in
theorem s166_28 {a : Nat} {i : Int32} : runv 166 28 ls (.int i :: .ref a :: st) h = vld2 h a (fun t => t == 100 || t == 104) i fun v => runv 166 29 ls (v :: st) h := runv_iald (show vcode 166 28 = some (.iaload, 1, 0, 0) from rfl)
set_option maxRecDepth 20000 in
theorem s166_29 : runv 166 29 ls st h = runv 166 31 ls (.int 31 :: st) h := runv_plain (x := (.bipush (31), 2, 0, 0)) rfl rfl
set_option maxRecDepth 20000 in
theorem s166_31 {x y : Int32} : runv 166 31 ls (.int y :: .int x :: st) h = runv 166 32 ls (.int (x &&& y) :: st) h := runv_plain (x := (.iand, 1, 0, 0)) rfl rfl
set_option maxRecDepth 20000 in
theorem s166_32_0 : runv 166 32 ls (.int 0 :: st) h = runv 166 120 ls st h := runv_tbl (show vcode 166 32 = some (.tableswitch (542) (0) (17) #[88, 121, 154, 177, 190, 213, 236, 269, 292, 315, 338, 351, 364, 377, 410, 443, 486, 519], 88, 0, 0) from rfl) (by decide)
set_option maxRecDepth 20000 in
theorem s166_32_1 : runv 166 32 ls (.int 1 :: st) h = runv 166 153 ls st h := runv_tbl (show vcode 166 32 = some (.tableswitch (542) (0) (17) #[88, 121, 154, 177, 190, 213, 236, 269, 292, 315, 338, 351, 364, 377, 410, 443, 486, 519], 88, 0, 0) from rfl) (by decide)
set_option maxRecDepth 20000 in
theorem s166_32_2 : runv 166 32 ls (.int 2 :: st) h = runv 166 186 ls st h := runv_tbl (show vcode 166 32 = some (.tableswitch (542) (0) (17) #[88, 121, 154, 177, 190, 213, 236, 269, 292, 315, 338, 351, 364, 377, 410, 443, 486, 519], 88, 0, 0) from rfl) (by decide)
set_option maxRecDepth 20000 in
theorem s166_32_3 : runv 166 32 ls (.int 3 :: st) h = runv 166 209 ls st h := runv_tbl (show vcode 166 32 = some (.tableswitch (542) (0) (17) #[88, 121, 154, 177, 190, 213, 236, 269, 292, 315, 338, 351, 364, 377, 410, 443, 486, 519], 88, 0, 0) from rfl) (by decide)
set_option maxRecDepth 20000 in
theorem s166_32_4 : runv 166 32 ls (.int 4 :: st) h = runv 166 222 ls st h := runv_tbl (show vcode 166 32 = some (.tableswitch (542) (0) (17) #[88, 121, 154, 177, 190, 213, 236, 269, 292, 315, 338, 351, 364, 377, 410, 443, 486, 519], 88, 0, 0) from rfl) (by decide)
set_option maxRecDepth 20000 in
theorem s166_32_5 : runv 166 32 ls (.int 5 :: st) h = runv 166 245 ls st h := runv_tbl (show vcode 166 32 = some (.tableswitch (542) (0) (17) #[88, 121, 154, 177, 190, 213, 236, 269, 292, 315, 338, 351, 364, 377, 410, 443, 486, 519], 88, 0, 0) from rfl) (by decide)
set_option maxRecDepth 20000 in
theorem s166_32_6 : runv 166 32 ls (.int 6 :: st) h = runv 166 268 ls st h := runv_tbl (show vcode 166 32 = some (.tableswitch (542) (0) (17) #[88, 121, 154, 177, 190, 213, 236, 269, 292, 315, 338, 351, 364, 377, 410, 443, 486, 519], 88, 0, 0) from rfl) (by decide)
set_option maxRecDepth 20000 in
theorem s166_32_7 : runv 166 32 ls (.int 7 :: st) h = runv 166 301 ls st h := runv_tbl (show vcode 166 32 = some (.tableswitch (542) (0) (17) #[88, 121, 154, 177, 190, 213, 236, 269, 292, 315, 338, 351, 364, 377, 410, 443, 486, 519], 88, 0, 0) from rfl) (by decide)
set_option maxRecDepth 20000 in
theorem s166_32_8 : runv 166 32 ls (.int 8 :: st) h = runv 166 324 ls st h := runv_tbl (show vcode 166 32 = some (.tableswitch (542) (0) (17) #[88, 121, 154, 177, 190, 213, 236, 269, 292, 315, 338, 351, 364, 377, 410, 443, 486, 519], 88, 0, 0) from rfl) (by decide)
set_option maxRecDepth 20000 in
theorem s166_32_9 : runv 166 32 ls (.int 9 :: st) h = runv 166 347 ls st h := runv_tbl (show vcode 166 32 = some (.tableswitch (542) (0) (17) #[88, 121, 154, 177, 190, 213, 236, 269, 292, 315, 338, 351, 364, 377, 410, 443, 486, 519], 88, 0, 0) from rfl) (by decide)
set_option maxRecDepth 20000 in
theorem s166_32_10 : runv 166 32 ls (.int 10 :: st) h = runv 166 370 ls st h := runv_tbl (show vcode 166 32 = some (.tableswitch (542) (0) (17) #[88, 121, 154, 177, 190, 213, 236, 269, 292, 315, 338, 351, 364, 377, 410, 443, 486, 519], 88, 0, 0) from rfl) (by decide)
set_option maxRecDepth 20000 in
theorem s166_32_11 : runv 166 32 ls (.int 11 :: st) h = runv 166 383 ls st h := runv_tbl (show vcode 166 32 = some (.tableswitch (542) (0) (17) #[88, 121, 154, 177, 190, 213, 236, 269, 292, 315, 338, 351, 364, 377, 410, 443, 486, 519], 88, 0, 0) from rfl) (by decide)
set_option maxRecDepth 20000 in
theorem s166_32_12 : runv 166 32 ls (.int 12 :: st) h = runv 166 396 ls st h := runv_tbl (show vcode 166 32 = some (.tableswitch (542) (0) (17) #[88, 121, 154, 177, 190, 213, 236, 269, 292, 315, 338, 351, 364, 377, 410, 443, 486, 519], 88, 0, 0) from rfl) (by decide)
set_option maxRecDepth 20000 in
theorem s166_32_13 : runv 166 32 ls (.int 13 :: st) h = runv 166 409 ls st h := runv_tbl (show vcode 166 32 = some (.tableswitch (542) (0) (17) #[88, 121, 154, 177, 190, 213, 236, 269, 292, 315, 338, 351, 364, 377, 410, 443, 486, 519], 88, 0, 0) from rfl) (by decide)
set_option maxRecDepth 20000 in
theorem s166_32_14 : runv 166 32 ls (.int 14 :: st) h = runv 166 442 ls st h := runv_tbl (show vcode 166 32 = some (.tableswitch (542) (0) (17) #[88, 121, 154, 177, 190, 213, 236, 269, 292, 315, 338, 351, 364, 377, 410, 443, 486, 519], 88, 0, 0) from rfl) (by decide)
set_option maxRecDepth 20000 in
theorem s166_32_15 : runv 166 32 ls (.int 15 :: st) h = runv 166 475 ls st h := runv_tbl (show vcode 166 32 = some (.tableswitch (542) (0) (17) #[88, 121, 154, 177, 190, 213, 236, 269, 292, 315, 338, 351, 364, 377, 410, 443, 486, 519], 88, 0, 0) from rfl) (by decide)
set_option maxRecDepth 20000 in
theorem s166_32_16 : runv 166 32 ls (.int 16 :: st) h = runv 166 518 ls st h := runv_tbl (show vcode 166 32 = some (.tableswitch (542) (0) (17) #[88, 121, 154, 177, 190, 213, 236, 269, 292, 315, 338, 351, 364, 377, 410, 443, 486, 519], 88, 0, 0) from rfl) (by decide)
set_option maxRecDepth 20000 in
theorem s166_32_17 : runv 166 32 ls (.int 17 :: st) h = runv 166 551 ls st h := runv_tbl (show vcode 166 32 = some (.tableswitch (542) (0) (17) #[88, 121, 154, 177, 190, 213, 236, 269, 292, 315, 338, 351, 364, 377, 410, 443, 486, 519], 88, 0, 0) from rfl) (by decide)
set_option maxRecDepth 20000 in
theorem s166_32_d {x : Int32} (hx : x.toInt < 0 ∨ 17 < x.toInt) : runv 166 32 ls (.int x :: st) h = runv 166 574 ls st h := runv_tbl (show vcode 166 32 = some (.tableswitch (542) (0) (17) #[88, 121, 154, 177, 190, 213, 236, 269, 292, 315, 338, 351, 364, 377, 410, 443, 486, 519], 88, 0, 0) from rfl) (by rw [if_pos hx]; rfl)
set_option maxRecDepth 20000 in
theorem s166_120 {a0 : Option Value} {x : Nat} : runv 166 120 (a0 :: some (.ref x) :: ls) st h = runv 166 121 (a0 :: some (.ref x) :: ls) (.ref x :: st) h := runv_plain (x := (.aload_n 1, 1, 0, 0)) rfl rfl
set_option maxRecDepth 20000 in
theorem s166_121 {x : Nat} : runv 166 121 (some (.ref x) :: ls) st h = runv 166 122 (some (.ref x) :: ls) (.ref x :: st) h := runv_plain (x := (.aload_n 0, 1, 0, 0)) rfl rfl
set_option maxRecDepth 20000 in
theorem s166_122 {a0 a1 a2 : Option Value} {x : Int32} : runv 166 122 (a0 :: a1 :: a2 :: some (.int x) :: ls) st h = runv 166 123 (a0 :: a1 :: a2 :: some (.int x) :: ls) (.int x :: st) h := runv_plain (x := (.iload_n 3, 1, 0, 0)) rfl rfl
set_option maxRecDepth 20000 in
theorem s166_123 : runv 166 123 ls st h = runv 166 124 ls (.int 1 :: st) h := runv_plain (x := (.iconst 1, 1, 0, 0)) rfl rfl
set_option maxRecDepth 20000 in
theorem s166_124 {x y : Int32} : runv 166 124 ls (.int y :: .int x :: st) h = runv 166 125 ls (.int (x + y) :: st) h := runv_plain (x := (.iadd, 1, 0, 0)) rfl rfl
set_option maxRecDepth 20000 in
theorem s166_125 {a : Nat} {i : Int32} : runv 166 125 ls (.int i :: .ref a :: st) h = vld2 h a (fun t => t == 100 || t == 104) i fun v => runv 166 126 ls (v :: st) h := runv_iald (show vcode 166 125 = some (.iaload, 1, 0, 0) from rfl)
set_option maxRecDepth 20000 in
theorem s166_126 {x : Nat} : runv 166 126 (some (.ref x) :: ls) st h = runv 166 127 (some (.ref x) :: ls) (.ref x :: st) h := runv_plain (x := (.aload_n 0, 1, 0, 0)) rfl rfl
set_option maxRecDepth 20000 in
theorem s166_127 {a0 a1 a2 : Option Value} {x : Int32} : runv 166 127 (a0 :: a1 :: a2 :: some (.int x) :: ls) st h = runv 166 128 (a0 :: a1 :: a2 :: some (.int x) :: ls) (.int x :: st) h := runv_plain (x := (.iload_n 3, 1, 0, 0)) rfl rfl
set_option maxRecDepth 20000 in
theorem s166_128 : runv 166 128 ls st h = runv 166 129 ls (.int 2 :: st) h := runv_plain (x := (.iconst 2, 1, 0, 0)) rfl rfl
set_option maxRecDepth 20000 in
theorem s166_129 {x y : Int32} : runv 166 129 ls (.int y :: .int x :: st) h = runv 166 130 ls (.int (x + y) :: st) h := runv_plain (x := (.iadd, 1, 0, 0)) rfl rfl
set_option maxRecDepth 20000 in
theorem s166_130 {a : Nat} {i : Int32} : runv 166 130 ls (.int i :: .ref a :: st) h = vld2 h a (fun t => t == 100 || t == 104) i fun v => runv 166 131 ls (v :: st) h := runv_iald (show vcode 166 130 = some (.iaload, 1, 0, 0) from rfl)
set_option maxRecDepth 20000 in
theorem s166_131 {a : Nat} {p0 : Int32} {p1 : Int32} (h1 : st.length ≤ 4) (h2 : vtag h a = 0) : runv 166 131 ls (.int p1 :: .int p0 :: .ref a :: st) h = vbind (callv 1 [.ref a, .int p0, .int p1] h) fun v h' => runv 166 134 ls (vpush v st) h' := runv_call (show vcode 166 131 = some (.invokevirtual 13, 3, 1, 3) from rfl) rfl (vcall_mk rfl rfl h1 (by decide) (vrecv_tag h2 (by decide)) rfl)
set_option maxRecDepth 20000 in
theorem s166_134 {a0 a1 : Option Value} {x : Nat} : runv 166 134 (a0 :: a1 :: some (.ref x) :: ls) st h = runv 166 135 (a0 :: a1 :: some (.ref x) :: ls) (.ref x :: st) h := runv_plain (x := (.aload_n 2, 1, 0, 0)) rfl rfl
set_option maxRecDepth 20000 in
theorem s166_135 {x : Nat} : runv 166 135 (some (.ref x) :: ls) st h = runv 166 136 (some (.ref x) :: ls) (.ref x :: st) h := runv_plain (x := (.aload_n 0, 1, 0, 0)) rfl rfl
set_option maxRecDepth 20000 in
theorem s166_136 {a0 a1 a2 : Option Value} {x : Int32} : runv 166 136 (a0 :: a1 :: a2 :: some (.int x) :: ls) st h = runv 166 137 (a0 :: a1 :: a2 :: some (.int x) :: ls) (.int x :: st) h := runv_plain (x := (.iload_n 3, 1, 0, 0)) rfl rfl
set_option maxRecDepth 20000 in
theorem s166_137 : runv 166 137 ls st h = runv 166 138 ls (.int 1 :: st) h := runv_plain (x := (.iconst 1, 1, 0, 0)) rfl rfl
set_option maxRecDepth 20000 in
theorem s166_138 {x y : Int32} : runv 166 138 ls (.int y :: .int x :: st) h = runv 166 139 ls (.int (x + y) :: st) h := runv_plain (x := (.iadd, 1, 0, 0)) rfl rfl
set_option maxRecDepth 20000 in
theorem s166_139 {a : Nat} {i : Int32} : runv 166 139 ls (.int i :: .ref a :: st) h = vld2 h a (fun t => t == 100 || t == 104) i fun v => runv 166 140 ls (v :: st) h := runv_iald (show vcode 166 139 = some (.iaload, 1, 0, 0) from rfl)
set_option maxRecDepth 20000 in
theorem s166_140 {x : Nat} : runv 166 140 (some (.ref x) :: ls) st h = runv 166 141 (some (.ref x) :: ls) (.ref x :: st) h := runv_plain (x := (.aload_n 0, 1, 0, 0)) rfl rfl
set_option maxRecDepth 20000 in
theorem s166_141 {a0 a1 a2 : Option Value} {x : Int32} : runv 166 141 (a0 :: a1 :: a2 :: some (.int x) :: ls) st h = runv 166 142 (a0 :: a1 :: a2 :: some (.int x) :: ls) (.int x :: st) h := runv_plain (x := (.iload_n 3, 1, 0, 0)) rfl rfl
set_option maxRecDepth 20000 in
theorem s166_142 : runv 166 142 ls st h = runv 166 143 ls (.int 2 :: st) h := runv_plain (x := (.iconst 2, 1, 0, 0)) rfl rfl
set_option maxRecDepth 20000 in
theorem s166_143 {x y : Int32} : runv 166 143 ls (.int y :: .int x :: st) h = runv 166 144 ls (.int (x + y) :: st) h := runv_plain (x := (.iadd, 1, 0, 0)) rfl rfl
set_option maxRecDepth 20000 in
theorem s166_144 {a : Nat} {i : Int32} : runv 166 144 ls (.int i :: .ref a :: st) h = vld2 h a (fun t => t == 100 || t == 104) i fun v => runv 166 145 ls (v :: st) h := runv_iald (show vcode 166 144 = some (.iaload, 1, 0, 0) from rfl)
set_option maxRecDepth 20000 in
theorem s166_145 {a : Nat} {p0 : Int32} {p1 : Int32} (h1 : st.length ≤ 4) (h2 : vtag h a = 9) : runv 166 145 ls (.int p1 :: .int p0 :: .ref a :: st) h = vbind (callv 26 [.ref a, .int p0, .int p1] h) fun v h' => runv 166 148 ls (vpush v st) h' := runv_call (show vcode 166 145 = some (.invokevirtual 17, 3, 26, 3) from rfl) rfl (vcall_mk rfl rfl h1 (by decide) (vrecv_tag h2 (by decide)) rfl)
set_option maxRecDepth 20000 in
theorem s166_148 {x y : Int32} : runv 166 148 ls (.int y :: .int x :: st) h = if x = y then runv 166 574 ls st h else runv 166 151 ls st h := (runv_icmp (show vcode 166 148 = some (.if_icmp .eq (426), 3, 0, 0) from rfl) (by decide)).trans (by simp only [vcmp, decide_eq_true_eq]; rfl)
set_option maxRecDepth 20000 in
theorem s166_151 : runv 166 151 ls st h = runv 166 152 ls (.int 0 :: st) h := runv_plain (x := (.iconst 0, 1, 0, 0)) rfl rfl
set_option maxRecDepth 20000 in
theorem s166_152 {v : Int32} (hv : v &&& 1 = v) : runv 166 152 ls [.int v] h = some (some (.int v), h) := runv_ret (show vcode 166 152 = some (.ireturn, 1, 0, 0) from rfl) rfl (by simp only [vretv, show vret 166 = some .boolean from rfl, if_pos hv])
set_option maxRecDepth 20000 in
theorem s166_153 {a0 : Option Value} {x : Nat} : runv 166 153 (a0 :: some (.ref x) :: ls) st h = runv 166 154 (a0 :: some (.ref x) :: ls) (.ref x :: st) h := runv_plain (x := (.aload_n 1, 1, 0, 0)) rfl rfl
set_option maxRecDepth 20000 in
theorem s166_154 {x : Nat} : runv 166 154 (some (.ref x) :: ls) st h = runv 166 155 (some (.ref x) :: ls) (.ref x :: st) h := runv_plain (x := (.aload_n 0, 1, 0, 0)) rfl rfl
set_option maxRecDepth 20000 in
theorem s166_155 {a0 a1 a2 : Option Value} {x : Int32} : runv 166 155 (a0 :: a1 :: a2 :: some (.int x) :: ls) st h = runv 166 156 (a0 :: a1 :: a2 :: some (.int x) :: ls) (.int x :: st) h := runv_plain (x := (.iload_n 3, 1, 0, 0)) rfl rfl
set_option maxRecDepth 20000 in
theorem s166_156 : runv 166 156 ls st h = runv 166 157 ls (.int 1 :: st) h := runv_plain (x := (.iconst 1, 1, 0, 0)) rfl rfl
set_option maxRecDepth 20000 in
theorem s166_157 {x y : Int32} : runv 166 157 ls (.int y :: .int x :: st) h = runv 166 158 ls (.int (x + y) :: st) h := runv_plain (x := (.iadd, 1, 0, 0)) rfl rfl
set_option maxRecDepth 20000 in
theorem s166_158 {a : Nat} {i : Int32} : runv 166 158 ls (.int i :: .ref a :: st) h = vld2 h a (fun t => t == 100 || t == 104) i fun v => runv 166 159 ls (v :: st) h := runv_iald (show vcode 166 158 = some (.iaload, 1, 0, 0) from rfl)
set_option maxRecDepth 20000 in
theorem s166_159 {x : Nat} : runv 166 159 (some (.ref x) :: ls) st h = runv 166 160 (some (.ref x) :: ls) (.ref x :: st) h := runv_plain (x := (.aload_n 0, 1, 0, 0)) rfl rfl
set_option maxRecDepth 20000 in
theorem s166_160 {a0 a1 a2 : Option Value} {x : Int32} : runv 166 160 (a0 :: a1 :: a2 :: some (.int x) :: ls) st h = runv 166 161 (a0 :: a1 :: a2 :: some (.int x) :: ls) (.int x :: st) h := runv_plain (x := (.iload_n 3, 1, 0, 0)) rfl rfl
set_option maxRecDepth 20000 in
theorem s166_161 : runv 166 161 ls st h = runv 166 162 ls (.int 2 :: st) h := runv_plain (x := (.iconst 2, 1, 0, 0)) rfl rfl
set_option maxRecDepth 20000 in
theorem s166_162 {x y : Int32} : runv 166 162 ls (.int y :: .int x :: st) h = runv 166 163 ls (.int (x + y) :: st) h := runv_plain (x := (.iadd, 1, 0, 0)) rfl rfl
set_option maxRecDepth 20000 in
theorem s166_163 {a : Nat} {i : Int32} : runv 166 163 ls (.int i :: .ref a :: st) h = vld2 h a (fun t => t == 100 || t == 104) i fun v => runv 166 164 ls (v :: st) h := runv_iald (show vcode 166 163 = some (.iaload, 1, 0, 0) from rfl)
set_option maxRecDepth 20000 in
theorem s166_164 {a : Nat} {p0 : Int32} {p1 : Int32} (h1 : st.length ≤ 4) (h2 : vtag h a = 0) : runv 166 164 ls (.int p1 :: .int p0 :: .ref a :: st) h = vbind (callv 2 [.ref a, .int p0, .int p1] h) fun v h' => runv 166 167 ls (vpush v st) h' := runv_call (show vcode 166 164 = some (.invokevirtual 18, 3, 2, 3) from rfl) rfl (vcall_mk rfl rfl h1 (by decide) (vrecv_tag h2 (by decide)) rfl)
set_option maxRecDepth 20000 in
theorem s166_167 {a0 a1 : Option Value} {x : Nat} : runv 166 167 (a0 :: a1 :: some (.ref x) :: ls) st h = runv 166 168 (a0 :: a1 :: some (.ref x) :: ls) (.ref x :: st) h := runv_plain (x := (.aload_n 2, 1, 0, 0)) rfl rfl
set_option maxRecDepth 20000 in
theorem s166_168 {x : Nat} : runv 166 168 (some (.ref x) :: ls) st h = runv 166 169 (some (.ref x) :: ls) (.ref x :: st) h := runv_plain (x := (.aload_n 0, 1, 0, 0)) rfl rfl
set_option maxRecDepth 20000 in
theorem s166_169 {a0 a1 a2 : Option Value} {x : Int32} : runv 166 169 (a0 :: a1 :: a2 :: some (.int x) :: ls) st h = runv 166 170 (a0 :: a1 :: a2 :: some (.int x) :: ls) (.int x :: st) h := runv_plain (x := (.iload_n 3, 1, 0, 0)) rfl rfl
set_option maxRecDepth 20000 in
theorem s166_170 : runv 166 170 ls st h = runv 166 171 ls (.int 1 :: st) h := runv_plain (x := (.iconst 1, 1, 0, 0)) rfl rfl
set_option maxRecDepth 20000 in
theorem s166_171 {x y : Int32} : runv 166 171 ls (.int y :: .int x :: st) h = runv 166 172 ls (.int (x + y) :: st) h := runv_plain (x := (.iadd, 1, 0, 0)) rfl rfl
set_option maxRecDepth 20000 in
theorem s166_172 {a : Nat} {i : Int32} : runv 166 172 ls (.int i :: .ref a :: st) h = vld2 h a (fun t => t == 100 || t == 104) i fun v => runv 166 173 ls (v :: st) h := runv_iald (show vcode 166 172 = some (.iaload, 1, 0, 0) from rfl)
set_option maxRecDepth 20000 in
theorem s166_173 {x : Nat} : runv 166 173 (some (.ref x) :: ls) st h = runv 166 174 (some (.ref x) :: ls) (.ref x :: st) h := runv_plain (x := (.aload_n 0, 1, 0, 0)) rfl rfl
set_option maxRecDepth 20000 in
theorem s166_174 {a0 a1 a2 : Option Value} {x : Int32} : runv 166 174 (a0 :: a1 :: a2 :: some (.int x) :: ls) st h = runv 166 175 (a0 :: a1 :: a2 :: some (.int x) :: ls) (.int x :: st) h := runv_plain (x := (.iload_n 3, 1, 0, 0)) rfl rfl
set_option maxRecDepth 20000 in
theorem s166_175 : runv 166 175 ls st h = runv 166 176 ls (.int 2 :: st) h := runv_plain (x := (.iconst 2, 1, 0, 0)) rfl rfl
set_option maxRecDepth 20000 in
theorem s166_176 {x y : Int32} : runv 166 176 ls (.int y :: .int x :: st) h = runv 166 177 ls (.int (x + y) :: st) h := runv_plain (x := (.iadd, 1, 0, 0)) rfl rfl
set_option maxRecDepth 20000 in
theorem s166_177 {a : Nat} {i : Int32} : runv 166 177 ls (.int i :: .ref a :: st) h = vld2 h a (fun t => t == 100 || t == 104) i fun v => runv 166 178 ls (v :: st) h := runv_iald (show vcode 166 177 = some (.iaload, 1, 0, 0) from rfl)
set_option maxRecDepth 20000 in
theorem s166_178 {a : Nat} {p0 : Int32} {p1 : Int32} (h1 : st.length ≤ 4) (h2 : vtag h a = 9) : runv 166 178 ls (.int p1 :: .int p0 :: .ref a :: st) h = vbind (callv 27 [.ref a, .int p0, .int p1] h) fun v h' => runv 166 181 ls (vpush v st) h' := runv_call (show vcode 166 178 = some (.invokevirtual 21, 3, 27, 3) from rfl) rfl (vcall_mk rfl rfl h1 (by decide) (vrecv_tag h2 (by decide)) rfl)
set_option maxRecDepth 20000 in
theorem s166_181 {x y : Int32} : runv 166 181 ls (.int y :: .int x :: st) h = if x = y then runv 166 574 ls st h else runv 166 184 ls st h := (runv_icmp (show vcode 166 181 = some (.if_icmp .eq (393), 3, 0, 0) from rfl) (by decide)).trans (by simp only [vcmp, decide_eq_true_eq]; rfl)
set_option maxRecDepth 20000 in
theorem s166_184 : runv 166 184 ls st h = runv 166 185 ls (.int 0 :: st) h := runv_plain (x := (.iconst 0, 1, 0, 0)) rfl rfl
set_option maxRecDepth 20000 in
theorem s166_185 {v : Int32} (hv : v &&& 1 = v) : runv 166 185 ls [.int v] h = some (some (.int v), h) := runv_ret (show vcode 166 185 = some (.ireturn, 1, 0, 0) from rfl) rfl (by simp only [vretv, show vret 166 = some .boolean from rfl, if_pos hv])
set_option maxRecDepth 20000 in
theorem s166_186 {a0 : Option Value} {x : Nat} : runv 166 186 (a0 :: some (.ref x) :: ls) st h = runv 166 187 (a0 :: some (.ref x) :: ls) (.ref x :: st) h := runv_plain (x := (.aload_n 1, 1, 0, 0)) rfl rfl
set_option maxRecDepth 20000 in
theorem s166_187 {x : Nat} : runv 166 187 (some (.ref x) :: ls) st h = runv 166 188 (some (.ref x) :: ls) (.ref x :: st) h := runv_plain (x := (.aload_n 0, 1, 0, 0)) rfl rfl
set_option maxRecDepth 20000 in
theorem s166_188 {a0 a1 a2 : Option Value} {x : Int32} : runv 166 188 (a0 :: a1 :: a2 :: some (.int x) :: ls) st h = runv 166 189 (a0 :: a1 :: a2 :: some (.int x) :: ls) (.int x :: st) h := runv_plain (x := (.iload_n 3, 1, 0, 0)) rfl rfl
set_option maxRecDepth 20000 in
theorem s166_189 : runv 166 189 ls st h = runv 166 190 ls (.int 1 :: st) h := runv_plain (x := (.iconst 1, 1, 0, 0)) rfl rfl
set_option maxRecDepth 20000 in
theorem s166_190 {x y : Int32} : runv 166 190 ls (.int y :: .int x :: st) h = runv 166 191 ls (.int (x + y) :: st) h := runv_plain (x := (.iadd, 1, 0, 0)) rfl rfl
set_option maxRecDepth 20000 in
theorem s166_191 {a : Nat} {i : Int32} : runv 166 191 ls (.int i :: .ref a :: st) h = vld2 h a (fun t => t == 100 || t == 104) i fun v => runv 166 192 ls (v :: st) h := runv_iald (show vcode 166 191 = some (.iaload, 1, 0, 0) from rfl)
set_option maxRecDepth 20000 in
theorem s166_192 {a : Nat} {p0 : Int32} (h1 : st.length ≤ 4) (h2 : vtag h a = 0) : runv 166 192 ls (.int p0 :: .ref a :: st) h = vbind (callv 3 [.ref a, .int p0] h) fun v h' => runv 166 195 ls (vpush v st) h' := runv_call (show vcode 166 192 = some (.invokevirtual 22, 3, 3, 2) from rfl) rfl (vcall_mk rfl rfl h1 (by decide) (vrecv_tag h2 (by decide)) rfl)
set_option maxRecDepth 20000 in
theorem s166_195 {a0 a1 : Option Value} {x : Nat} : runv 166 195 (a0 :: a1 :: some (.ref x) :: ls) st h = runv 166 196 (a0 :: a1 :: some (.ref x) :: ls) (.ref x :: st) h := runv_plain (x := (.aload_n 2, 1, 0, 0)) rfl rfl
set_option maxRecDepth 20000 in
theorem s166_196 {x : Nat} : runv 166 196 (some (.ref x) :: ls) st h = runv 166 197 (some (.ref x) :: ls) (.ref x :: st) h := runv_plain (x := (.aload_n 0, 1, 0, 0)) rfl rfl
set_option maxRecDepth 20000 in
theorem s166_197 {a0 a1 a2 : Option Value} {x : Int32} : runv 166 197 (a0 :: a1 :: a2 :: some (.int x) :: ls) st h = runv 166 198 (a0 :: a1 :: a2 :: some (.int x) :: ls) (.int x :: st) h := runv_plain (x := (.iload_n 3, 1, 0, 0)) rfl rfl
set_option maxRecDepth 20000 in
theorem s166_198 : runv 166 198 ls st h = runv 166 199 ls (.int 1 :: st) h := runv_plain (x := (.iconst 1, 1, 0, 0)) rfl rfl
set_option maxRecDepth 20000 in
theorem s166_199 {x y : Int32} : runv 166 199 ls (.int y :: .int x :: st) h = runv 166 200 ls (.int (x + y) :: st) h := runv_plain (x := (.iadd, 1, 0, 0)) rfl rfl
set_option maxRecDepth 20000 in
theorem s166_200 {a : Nat} {i : Int32} : runv 166 200 ls (.int i :: .ref a :: st) h = vld2 h a (fun t => t == 100 || t == 104) i fun v => runv 166 201 ls (v :: st) h := runv_iald (show vcode 166 200 = some (.iaload, 1, 0, 0) from rfl)
set_option maxRecDepth 20000 in
theorem s166_201 {a : Nat} {p0 : Int32} (h1 : st.length ≤ 4) (h2 : vtag h a = 9) : runv 166 201 ls (.int p0 :: .ref a :: st) h = vbind (callv 28 [.ref a, .int p0] h) fun v h' => runv 166 204 ls (vpush v st) h' := runv_call (show vcode 166 201 = some (.invokevirtual 26, 3, 28, 2) from rfl) rfl (vcall_mk rfl rfl h1 (by decide) (vrecv_tag h2 (by decide)) rfl)
set_option maxRecDepth 20000 in
theorem s166_204 {x y : Int32} : runv 166 204 ls (.int y :: .int x :: st) h = if x = y then runv 166 574 ls st h else runv 166 207 ls st h := (runv_icmp (show vcode 166 204 = some (.if_icmp .eq (370), 3, 0, 0) from rfl) (by decide)).trans (by simp only [vcmp, decide_eq_true_eq]; rfl)
set_option maxRecDepth 20000 in
theorem s166_207 : runv 166 207 ls st h = runv 166 208 ls (.int 0 :: st) h := runv_plain (x := (.iconst 0, 1, 0, 0)) rfl rfl
set_option maxRecDepth 20000 in
theorem s166_208 {v : Int32} (hv : v &&& 1 = v) : runv 166 208 ls [.int v] h = some (some (.int v), h) := runv_ret (show vcode 166 208 = some (.ireturn, 1, 0, 0) from rfl) rfl (by simp only [vretv, show vret 166 = some .boolean from rfl, if_pos hv])
set_option maxRecDepth 20000 in
theorem s166_209 {a0 : Option Value} {x : Nat} : runv 166 209 (a0 :: some (.ref x) :: ls) st h = runv 166 210 (a0 :: some (.ref x) :: ls) (.ref x :: st) h := runv_plain (x := (.aload_n 1, 1, 0, 0)) rfl rfl
set_option maxRecDepth 20000 in
theorem s166_210 {a : Nat} (h1 : st.length ≤ 4) (h2 : vtag h a = 0) : runv 166 210 ls (.ref a :: st) h = vbind (callv 4 [.ref a] h) fun v h' => runv 166 213 ls (vpush v st) h' := runv_call (show vcode 166 210 = some (.invokevirtual 27, 3, 4, 1) from rfl) rfl (vcall_mk rfl rfl h1 (by decide) (vrecv_tag h2 (by decide)) rfl)
set_option maxRecDepth 20000 in
theorem s166_213 {a0 a1 : Option Value} {x : Nat} : runv 166 213 (a0 :: a1 :: some (.ref x) :: ls) st h = runv 166 214 (a0 :: a1 :: some (.ref x) :: ls) (.ref x :: st) h := runv_plain (x := (.aload_n 2, 1, 0, 0)) rfl rfl
set_option maxRecDepth 20000 in
theorem s166_214 {a : Nat} (h1 : st.length ≤ 4) (h2 : vtag h a = 9) : runv 166 214 ls (.ref a :: st) h = vbind (callv 29 [.ref a] h) fun v h' => runv 166 217 ls (vpush v st) h' := runv_call (show vcode 166 214 = some (.invokevirtual 31, 3, 29, 1) from rfl) rfl (vcall_mk rfl rfl h1 (by decide) (vrecv_tag h2 (by decide)) rfl)
set_option maxRecDepth 20000 in
theorem s166_217 {x y : Int32} : runv 166 217 ls (.int y :: .int x :: st) h = if x = y then runv 166 574 ls st h else runv 166 220 ls st h := (runv_icmp (show vcode 166 217 = some (.if_icmp .eq (357), 3, 0, 0) from rfl) (by decide)).trans (by simp only [vcmp, decide_eq_true_eq]; rfl)
set_option maxRecDepth 20000 in
theorem s166_220 : runv 166 220 ls st h = runv 166 221 ls (.int 0 :: st) h := runv_plain (x := (.iconst 0, 1, 0, 0)) rfl rfl
set_option maxRecDepth 20000 in
theorem s166_221 {v : Int32} (hv : v &&& 1 = v) : runv 166 221 ls [.int v] h = some (some (.int v), h) := runv_ret (show vcode 166 221 = some (.ireturn, 1, 0, 0) from rfl) rfl (by simp only [vretv, show vret 166 = some .boolean from rfl, if_pos hv])
set_option maxRecDepth 20000 in
theorem s166_222 {a0 : Option Value} {x : Nat} : runv 166 222 (a0 :: some (.ref x) :: ls) st h = runv 166 223 (a0 :: some (.ref x) :: ls) (.ref x :: st) h := runv_plain (x := (.aload_n 1, 1, 0, 0)) rfl rfl
set_option maxRecDepth 20000 in
theorem s166_223 {x : Nat} : runv 166 223 (some (.ref x) :: ls) st h = runv 166 224 (some (.ref x) :: ls) (.ref x :: st) h := runv_plain (x := (.aload_n 0, 1, 0, 0)) rfl rfl
set_option maxRecDepth 20000 in
theorem s166_224 {a0 a1 a2 : Option Value} {x : Int32} : runv 166 224 (a0 :: a1 :: a2 :: some (.int x) :: ls) st h = runv 166 225 (a0 :: a1 :: a2 :: some (.int x) :: ls) (.int x :: st) h := runv_plain (x := (.iload_n 3, 1, 0, 0)) rfl rfl
set_option maxRecDepth 20000 in
theorem s166_225 : runv 166 225 ls st h = runv 166 226 ls (.int 1 :: st) h := runv_plain (x := (.iconst 1, 1, 0, 0)) rfl rfl
set_option maxRecDepth 20000 in
theorem s166_226 {x y : Int32} : runv 166 226 ls (.int y :: .int x :: st) h = runv 166 227 ls (.int (x + y) :: st) h := runv_plain (x := (.iadd, 1, 0, 0)) rfl rfl
set_option maxRecDepth 20000 in
theorem s166_227 {a : Nat} {i : Int32} : runv 166 227 ls (.int i :: .ref a :: st) h = vld2 h a (fun t => t == 100 || t == 104) i fun v => runv 166 228 ls (v :: st) h := runv_iald (show vcode 166 227 = some (.iaload, 1, 0, 0) from rfl)
set_option maxRecDepth 20000 in
theorem s166_228 {a : Nat} {p0 : Int32} (h1 : st.length ≤ 4) (h2 : vtag h a = 0) : runv 166 228 ls (.int p0 :: .ref a :: st) h = vbind (callv 5 [.ref a, .int p0] h) fun v h' => runv 166 231 ls (vpush v st) h' := runv_call (show vcode 166 228 = some (.invokevirtual 32, 3, 5, 2) from rfl) rfl (vcall_mk rfl rfl h1 (by decide) (vrecv_tag h2 (by decide)) rfl)
set_option maxRecDepth 20000 in
theorem s166_231 {a0 a1 : Option Value} {x : Nat} : runv 166 231 (a0 :: a1 :: some (.ref x) :: ls) st h = runv 166 232 (a0 :: a1 :: some (.ref x) :: ls) (.ref x :: st) h := runv_plain (x := (.aload_n 2, 1, 0, 0)) rfl rfl
set_option maxRecDepth 20000 in
theorem s166_232 {x : Nat} : runv 166 232 (some (.ref x) :: ls) st h = runv 166 233 (some (.ref x) :: ls) (.ref x :: st) h := runv_plain (x := (.aload_n 0, 1, 0, 0)) rfl rfl
set_option maxRecDepth 20000 in
theorem s166_233 {a0 a1 a2 : Option Value} {x : Int32} : runv 166 233 (a0 :: a1 :: a2 :: some (.int x) :: ls) st h = runv 166 234 (a0 :: a1 :: a2 :: some (.int x) :: ls) (.int x :: st) h := runv_plain (x := (.iload_n 3, 1, 0, 0)) rfl rfl
set_option maxRecDepth 20000 in
theorem s166_234 : runv 166 234 ls st h = runv 166 235 ls (.int 1 :: st) h := runv_plain (x := (.iconst 1, 1, 0, 0)) rfl rfl
set_option maxRecDepth 20000 in
theorem s166_235 {x y : Int32} : runv 166 235 ls (.int y :: .int x :: st) h = runv 166 236 ls (.int (x + y) :: st) h := runv_plain (x := (.iadd, 1, 0, 0)) rfl rfl
set_option maxRecDepth 20000 in
theorem s166_236 {a : Nat} {i : Int32} : runv 166 236 ls (.int i :: .ref a :: st) h = vld2 h a (fun t => t == 100 || t == 104) i fun v => runv 166 237 ls (v :: st) h := runv_iald (show vcode 166 236 = some (.iaload, 1, 0, 0) from rfl)
set_option maxRecDepth 20000 in
theorem s166_237 {a : Nat} {p0 : Int32} (h1 : st.length ≤ 4) (h2 : vtag h a = 9) : runv 166 237 ls (.int p0 :: .ref a :: st) h = vbind (callv 30 [.ref a, .int p0] h) fun v h' => runv 166 240 ls (vpush v st) h' := runv_call (show vcode 166 237 = some (.invokevirtual 36, 3, 30, 2) from rfl) rfl (vcall_mk rfl rfl h1 (by decide) (vrecv_tag h2 (by decide)) rfl)
set_option maxRecDepth 20000 in
theorem s166_240 {x y : Int32} : runv 166 240 ls (.int y :: .int x :: st) h = if x = y then runv 166 574 ls st h else runv 166 243 ls st h := (runv_icmp (show vcode 166 240 = some (.if_icmp .eq (334), 3, 0, 0) from rfl) (by decide)).trans (by simp only [vcmp, decide_eq_true_eq]; rfl)
set_option maxRecDepth 20000 in
theorem s166_243 : runv 166 243 ls st h = runv 166 244 ls (.int 0 :: st) h := runv_plain (x := (.iconst 0, 1, 0, 0)) rfl rfl
set_option maxRecDepth 20000 in
theorem s166_244 {v : Int32} (hv : v &&& 1 = v) : runv 166 244 ls [.int v] h = some (some (.int v), h) := runv_ret (show vcode 166 244 = some (.ireturn, 1, 0, 0) from rfl) rfl (by simp only [vretv, show vret 166 = some .boolean from rfl, if_pos hv])
set_option maxRecDepth 20000 in
theorem s166_245 {a0 : Option Value} {x : Nat} : runv 166 245 (a0 :: some (.ref x) :: ls) st h = runv 166 246 (a0 :: some (.ref x) :: ls) (.ref x :: st) h := runv_plain (x := (.aload_n 1, 1, 0, 0)) rfl rfl
set_option maxRecDepth 20000 in
theorem s166_246 {x : Nat} : runv 166 246 (some (.ref x) :: ls) st h = runv 166 247 (some (.ref x) :: ls) (.ref x :: st) h := runv_plain (x := (.aload_n 0, 1, 0, 0)) rfl rfl
set_option maxRecDepth 20000 in
theorem s166_247 {a0 a1 a2 : Option Value} {x : Int32} : runv 166 247 (a0 :: a1 :: a2 :: some (.int x) :: ls) st h = runv 166 248 (a0 :: a1 :: a2 :: some (.int x) :: ls) (.int x :: st) h := runv_plain (x := (.iload_n 3, 1, 0, 0)) rfl rfl
set_option maxRecDepth 20000 in
theorem s166_248 : runv 166 248 ls st h = runv 166 249 ls (.int 1 :: st) h := runv_plain (x := (.iconst 1, 1, 0, 0)) rfl rfl
set_option maxRecDepth 20000 in
theorem s166_249 {x y : Int32} : runv 166 249 ls (.int y :: .int x :: st) h = runv 166 250 ls (.int (x + y) :: st) h := runv_plain (x := (.iadd, 1, 0, 0)) rfl rfl
set_option maxRecDepth 20000 in
theorem s166_250 {a : Nat} {i : Int32} : runv 166 250 ls (.int i :: .ref a :: st) h = vld2 h a (fun t => t == 100 || t == 104) i fun v => runv 166 251 ls (v :: st) h := runv_iald (show vcode 166 250 = some (.iaload, 1, 0, 0) from rfl)
set_option maxRecDepth 20000 in
theorem s166_251 {a : Nat} {p0 : Int32} (h1 : st.length ≤ 4) (h2 : vtag h a = 0) : runv 166 251 ls (.int p0 :: .ref a :: st) h = vbind (callv 6 [.ref a, .int p0] h) fun v h' => runv 166 254 ls (vpush v st) h' := runv_call (show vcode 166 251 = some (.invokevirtual 37, 3, 6, 2) from rfl) rfl (vcall_mk rfl rfl h1 (by decide) (vrecv_tag h2 (by decide)) rfl)
set_option maxRecDepth 20000 in
theorem s166_254 {a0 a1 : Option Value} {x : Nat} : runv 166 254 (a0 :: a1 :: some (.ref x) :: ls) st h = runv 166 255 (a0 :: a1 :: some (.ref x) :: ls) (.ref x :: st) h := runv_plain (x := (.aload_n 2, 1, 0, 0)) rfl rfl
set_option maxRecDepth 20000 in
theorem s166_255 {x : Nat} : runv 166 255 (some (.ref x) :: ls) st h = runv 166 256 (some (.ref x) :: ls) (.ref x :: st) h := runv_plain (x := (.aload_n 0, 1, 0, 0)) rfl rfl
set_option maxRecDepth 20000 in
theorem s166_256 {a0 a1 a2 : Option Value} {x : Int32} : runv 166 256 (a0 :: a1 :: a2 :: some (.int x) :: ls) st h = runv 166 257 (a0 :: a1 :: a2 :: some (.int x) :: ls) (.int x :: st) h := runv_plain (x := (.iload_n 3, 1, 0, 0)) rfl rfl
set_option maxRecDepth 20000 in
theorem s166_257 : runv 166 257 ls st h = runv 166 258 ls (.int 1 :: st) h := runv_plain (x := (.iconst 1, 1, 0, 0)) rfl rfl
set_option maxRecDepth 20000 in
theorem s166_258 {x y : Int32} : runv 166 258 ls (.int y :: .int x :: st) h = runv 166 259 ls (.int (x + y) :: st) h := runv_plain (x := (.iadd, 1, 0, 0)) rfl rfl
set_option maxRecDepth 20000 in
theorem s166_259 {a : Nat} {i : Int32} : runv 166 259 ls (.int i :: .ref a :: st) h = vld2 h a (fun t => t == 100 || t == 104) i fun v => runv 166 260 ls (v :: st) h := runv_iald (show vcode 166 259 = some (.iaload, 1, 0, 0) from rfl)
set_option maxRecDepth 20000 in
theorem s166_260 {a : Nat} {p0 : Int32} (h1 : st.length ≤ 4) (h2 : vtag h a = 9) : runv 166 260 ls (.int p0 :: .ref a :: st) h = vbind (callv 40 [.ref a, .int p0] h) fun v h' => runv 166 263 ls (vpush v st) h' := runv_call (show vcode 166 260 = some (.invokevirtual 40, 3, 40, 2) from rfl) rfl (vcall_mk rfl rfl h1 (by decide) (vrecv_tag h2 (by decide)) rfl)
set_option maxRecDepth 20000 in
theorem s166_263 {x y : Int32} : runv 166 263 ls (.int y :: .int x :: st) h = if x = y then runv 166 574 ls st h else runv 166 266 ls st h := (runv_icmp (show vcode 166 263 = some (.if_icmp .eq (311), 3, 0, 0) from rfl) (by decide)).trans (by simp only [vcmp, decide_eq_true_eq]; rfl)
set_option maxRecDepth 20000 in
theorem s166_266 : runv 166 266 ls st h = runv 166 267 ls (.int 0 :: st) h := runv_plain (x := (.iconst 0, 1, 0, 0)) rfl rfl
set_option maxRecDepth 20000 in
theorem s166_267 {v : Int32} (hv : v &&& 1 = v) : runv 166 267 ls [.int v] h = some (some (.int v), h) := runv_ret (show vcode 166 267 = some (.ireturn, 1, 0, 0) from rfl) rfl (by simp only [vretv, show vret 166 = some .boolean from rfl, if_pos hv])
set_option maxRecDepth 20000 in
theorem s166_268 {a0 : Option Value} {x : Nat} : runv 166 268 (a0 :: some (.ref x) :: ls) st h = runv 166 269 (a0 :: some (.ref x) :: ls) (.ref x :: st) h := runv_plain (x := (.aload_n 1, 1, 0, 0)) rfl rfl
set_option maxRecDepth 20000 in
theorem s166_269 {x : Nat} : runv 166 269 (some (.ref x) :: ls) st h = runv 166 270 (some (.ref x) :: ls) (.ref x :: st) h := runv_plain (x := (.aload_n 0, 1, 0, 0)) rfl rfl
set_option maxRecDepth 20000 in
theorem s166_270 {a0 a1 a2 : Option Value} {x : Int32} : runv 166 270 (a0 :: a1 :: a2 :: some (.int x) :: ls) st h = runv 166 271 (a0 :: a1 :: a2 :: some (.int x) :: ls) (.int x :: st) h := runv_plain (x := (.iload_n 3, 1, 0, 0)) rfl rfl
set_option maxRecDepth 20000 in
theorem s166_271 : runv 166 271 ls st h = runv 166 272 ls (.int 1 :: st) h := runv_plain (x := (.iconst 1, 1, 0, 0)) rfl rfl
set_option maxRecDepth 20000 in
theorem s166_272 {x y : Int32} : runv 166 272 ls (.int y :: .int x :: st) h = runv 166 273 ls (.int (x + y) :: st) h := runv_plain (x := (.iadd, 1, 0, 0)) rfl rfl
set_option maxRecDepth 20000 in
theorem s166_273 {a : Nat} {i : Int32} : runv 166 273 ls (.int i :: .ref a :: st) h = vld2 h a (fun t => t == 100 || t == 104) i fun v => runv 166 274 ls (v :: st) h := runv_iald (show vcode 166 273 = some (.iaload, 1, 0, 0) from rfl)
set_option maxRecDepth 20000 in
theorem s166_274 {x : Nat} : runv 166 274 (some (.ref x) :: ls) st h = runv 166 275 (some (.ref x) :: ls) (.ref x :: st) h := runv_plain (x := (.aload_n 0, 1, 0, 0)) rfl rfl
set_option maxRecDepth 20000 in
theorem s166_275 {a0 a1 a2 : Option Value} {x : Int32} : runv 166 275 (a0 :: a1 :: a2 :: some (.int x) :: ls) st h = runv 166 276 (a0 :: a1 :: a2 :: some (.int x) :: ls) (.int x :: st) h := runv_plain (x := (.iload_n 3, 1, 0, 0)) rfl rfl
set_option maxRecDepth 20000 in
theorem s166_276 : runv 166 276 ls st h = runv 166 277 ls (.int 2 :: st) h := runv_plain (x := (.iconst 2, 1, 0, 0)) rfl rfl
set_option maxRecDepth 20000 in
theorem s166_277 {x y : Int32} : runv 166 277 ls (.int y :: .int x :: st) h = runv 166 278 ls (.int (x + y) :: st) h := runv_plain (x := (.iadd, 1, 0, 0)) rfl rfl
set_option maxRecDepth 20000 in
theorem s166_278 {a : Nat} {i : Int32} : runv 166 278 ls (.int i :: .ref a :: st) h = vld2 h a (fun t => t == 100 || t == 104) i fun v => runv 166 279 ls (v :: st) h := runv_iald (show vcode 166 278 = some (.iaload, 1, 0, 0) from rfl)
set_option maxRecDepth 20000 in
theorem s166_279 {a : Nat} {p0 : Int32} {p1 : Int32} (h1 : st.length ≤ 4) (h2 : vtag h a = 0) : runv 166 279 ls (.int p1 :: .int p0 :: .ref a :: st) h = vbind (callv 7 [.ref a, .int p0, .int p1] h) fun v h' => runv 166 282 ls (vpush v st) h' := runv_call (show vcode 166 279 = some (.invokevirtual 41, 3, 7, 3) from rfl) rfl (vcall_mk rfl rfl h1 (by decide) (vrecv_tag h2 (by decide)) rfl)
set_option maxRecDepth 20000 in
theorem s166_282 {a0 a1 : Option Value} {x : Nat} : runv 166 282 (a0 :: a1 :: some (.ref x) :: ls) st h = runv 166 283 (a0 :: a1 :: some (.ref x) :: ls) (.ref x :: st) h := runv_plain (x := (.aload_n 2, 1, 0, 0)) rfl rfl
set_option maxRecDepth 20000 in
theorem s166_283 {x : Nat} : runv 166 283 (some (.ref x) :: ls) st h = runv 166 284 (some (.ref x) :: ls) (.ref x :: st) h := runv_plain (x := (.aload_n 0, 1, 0, 0)) rfl rfl
set_option maxRecDepth 20000 in
theorem s166_284 {a0 a1 a2 : Option Value} {x : Int32} : runv 166 284 (a0 :: a1 :: a2 :: some (.int x) :: ls) st h = runv 166 285 (a0 :: a1 :: a2 :: some (.int x) :: ls) (.int x :: st) h := runv_plain (x := (.iload_n 3, 1, 0, 0)) rfl rfl
set_option maxRecDepth 20000 in
theorem s166_285 : runv 166 285 ls st h = runv 166 286 ls (.int 1 :: st) h := runv_plain (x := (.iconst 1, 1, 0, 0)) rfl rfl
set_option maxRecDepth 20000 in
theorem s166_286 {x y : Int32} : runv 166 286 ls (.int y :: .int x :: st) h = runv 166 287 ls (.int (x + y) :: st) h := runv_plain (x := (.iadd, 1, 0, 0)) rfl rfl
set_option maxRecDepth 20000 in
theorem s166_287 {a : Nat} {i : Int32} : runv 166 287 ls (.int i :: .ref a :: st) h = vld2 h a (fun t => t == 100 || t == 104) i fun v => runv 166 288 ls (v :: st) h := runv_iald (show vcode 166 287 = some (.iaload, 1, 0, 0) from rfl)
set_option maxRecDepth 20000 in
theorem s166_288 {x : Nat} : runv 166 288 (some (.ref x) :: ls) st h = runv 166 289 (some (.ref x) :: ls) (.ref x :: st) h := runv_plain (x := (.aload_n 0, 1, 0, 0)) rfl rfl
set_option maxRecDepth 20000 in
theorem s166_289 {a0 a1 a2 : Option Value} {x : Int32} : runv 166 289 (a0 :: a1 :: a2 :: some (.int x) :: ls) st h = runv 166 290 (a0 :: a1 :: a2 :: some (.int x) :: ls) (.int x :: st) h := runv_plain (x := (.iload_n 3, 1, 0, 0)) rfl rfl
set_option maxRecDepth 20000 in
theorem s166_290 : runv 166 290 ls st h = runv 166 291 ls (.int 2 :: st) h := runv_plain (x := (.iconst 2, 1, 0, 0)) rfl rfl
set_option maxRecDepth 20000 in
theorem s166_291 {x y : Int32} : runv 166 291 ls (.int y :: .int x :: st) h = runv 166 292 ls (.int (x + y) :: st) h := runv_plain (x := (.iadd, 1, 0, 0)) rfl rfl
set_option maxRecDepth 20000 in
theorem s166_292 {a : Nat} {i : Int32} : runv 166 292 ls (.int i :: .ref a :: st) h = vld2 h a (fun t => t == 100 || t == 104) i fun v => runv 166 293 ls (v :: st) h := runv_iald (show vcode 166 292 = some (.iaload, 1, 0, 0) from rfl)
set_option maxRecDepth 20000 in
theorem s166_293 {a : Nat} {p0 : Int32} {p1 : Int32} (h1 : st.length ≤ 4) (h2 : vtag h a = 9) : runv 166 293 ls (.int p1 :: .int p0 :: .ref a :: st) h = vbind (callv 42 [.ref a, .int p0, .int p1] h) fun v h' => runv 166 296 ls (vpush v st) h' := runv_call (show vcode 166 293 = some (.invokevirtual 44, 3, 42, 3) from rfl) rfl (vcall_mk rfl rfl h1 (by decide) (vrecv_tag h2 (by decide)) rfl)
set_option maxRecDepth 20000 in
theorem s166_296 {x y : Int32} : runv 166 296 ls (.int y :: .int x :: st) h = if x = y then runv 166 574 ls st h else runv 166 299 ls st h := (runv_icmp (show vcode 166 296 = some (.if_icmp .eq (278), 3, 0, 0) from rfl) (by decide)).trans (by simp only [vcmp, decide_eq_true_eq]; rfl)
set_option maxRecDepth 20000 in
theorem s166_299 : runv 166 299 ls st h = runv 166 300 ls (.int 0 :: st) h := runv_plain (x := (.iconst 0, 1, 0, 0)) rfl rfl
set_option maxRecDepth 20000 in
theorem s166_300 {v : Int32} (hv : v &&& 1 = v) : runv 166 300 ls [.int v] h = some (some (.int v), h) := runv_ret (show vcode 166 300 = some (.ireturn, 1, 0, 0) from rfl) rfl (by simp only [vretv, show vret 166 = some .boolean from rfl, if_pos hv])
set_option maxRecDepth 20000 in
theorem s166_301 {a0 : Option Value} {x : Nat} : runv 166 301 (a0 :: some (.ref x) :: ls) st h = runv 166 302 (a0 :: some (.ref x) :: ls) (.ref x :: st) h := runv_plain (x := (.aload_n 1, 1, 0, 0)) rfl rfl
set_option maxRecDepth 20000 in
theorem s166_302 {x : Nat} : runv 166 302 (some (.ref x) :: ls) st h = runv 166 303 (some (.ref x) :: ls) (.ref x :: st) h := runv_plain (x := (.aload_n 0, 1, 0, 0)) rfl rfl
set_option maxRecDepth 20000 in
theorem s166_303 {a0 a1 a2 : Option Value} {x : Int32} : runv 166 303 (a0 :: a1 :: a2 :: some (.int x) :: ls) st h = runv 166 304 (a0 :: a1 :: a2 :: some (.int x) :: ls) (.int x :: st) h := runv_plain (x := (.iload_n 3, 1, 0, 0)) rfl rfl
set_option maxRecDepth 20000 in
theorem s166_304 : runv 166 304 ls st h = runv 166 305 ls (.int 1 :: st) h := runv_plain (x := (.iconst 1, 1, 0, 0)) rfl rfl
set_option maxRecDepth 20000 in
theorem s166_305 {x y : Int32} : runv 166 305 ls (.int y :: .int x :: st) h = runv 166 306 ls (.int (x + y) :: st) h := runv_plain (x := (.iadd, 1, 0, 0)) rfl rfl
set_option maxRecDepth 20000 in
theorem s166_306 {a : Nat} {i : Int32} : runv 166 306 ls (.int i :: .ref a :: st) h = vld2 h a (fun t => t == 100 || t == 104) i fun v => runv 166 307 ls (v :: st) h := runv_iald (show vcode 166 306 = some (.iaload, 1, 0, 0) from rfl)
set_option maxRecDepth 20000 in
theorem s166_307 {a : Nat} {p0 : Int32} (h1 : st.length ≤ 4) (h2 : vtag h a = 0) : runv 166 307 ls (.int p0 :: .ref a :: st) h = vbind (callv 8 [.ref a, .int p0] h) fun v h' => runv 166 310 ls (vpush v st) h' := runv_call (show vcode 166 307 = some (.invokevirtual 45, 3, 8, 2) from rfl) rfl (vcall_mk rfl rfl h1 (by decide) (vrecv_tag h2 (by decide)) rfl)
set_option maxRecDepth 20000 in
theorem s166_310 {a0 a1 : Option Value} {x : Nat} : runv 166 310 (a0 :: a1 :: some (.ref x) :: ls) st h = runv 166 311 (a0 :: a1 :: some (.ref x) :: ls) (.ref x :: st) h := runv_plain (x := (.aload_n 2, 1, 0, 0)) rfl rfl
set_option maxRecDepth 20000 in
theorem s166_311 {x : Nat} : runv 166 311 (some (.ref x) :: ls) st h = runv 166 312 (some (.ref x) :: ls) (.ref x :: st) h := runv_plain (x := (.aload_n 0, 1, 0, 0)) rfl rfl
set_option maxRecDepth 20000 in
theorem s166_312 {a0 a1 a2 : Option Value} {x : Int32} : runv 166 312 (a0 :: a1 :: a2 :: some (.int x) :: ls) st h = runv 166 313 (a0 :: a1 :: a2 :: some (.int x) :: ls) (.int x :: st) h := runv_plain (x := (.iload_n 3, 1, 0, 0)) rfl rfl
set_option maxRecDepth 20000 in
theorem s166_313 : runv 166 313 ls st h = runv 166 314 ls (.int 1 :: st) h := runv_plain (x := (.iconst 1, 1, 0, 0)) rfl rfl
set_option maxRecDepth 20000 in
theorem s166_314 {x y : Int32} : runv 166 314 ls (.int y :: .int x :: st) h = runv 166 315 ls (.int (x + y) :: st) h := runv_plain (x := (.iadd, 1, 0, 0)) rfl rfl
set_option maxRecDepth 20000 in
theorem s166_315 {a : Nat} {i : Int32} : runv 166 315 ls (.int i :: .ref a :: st) h = vld2 h a (fun t => t == 100 || t == 104) i fun v => runv 166 316 ls (v :: st) h := runv_iald (show vcode 166 315 = some (.iaload, 1, 0, 0) from rfl)
set_option maxRecDepth 20000 in
theorem s166_316 {a : Nat} {p0 : Int32} (h1 : st.length ≤ 4) (h2 : vtag h a = 9) : runv 166 316 ls (.int p0 :: .ref a :: st) h = vbind (callv 43 [.ref a, .int p0] h) fun v h' => runv 166 319 ls (vpush v st) h' := runv_call (show vcode 166 316 = some (.invokevirtual 48, 3, 43, 2) from rfl) rfl (vcall_mk rfl rfl h1 (by decide) (vrecv_tag h2 (by decide)) rfl)
set_option maxRecDepth 20000 in
theorem s166_319 {x y : Int32} : runv 166 319 ls (.int y :: .int x :: st) h = if x = y then runv 166 574 ls st h else runv 166 322 ls st h := (runv_icmp (show vcode 166 319 = some (.if_icmp .eq (255), 3, 0, 0) from rfl) (by decide)).trans (by simp only [vcmp, decide_eq_true_eq]; rfl)
set_option maxRecDepth 20000 in
theorem s166_322 : runv 166 322 ls st h = runv 166 323 ls (.int 0 :: st) h := runv_plain (x := (.iconst 0, 1, 0, 0)) rfl rfl
set_option maxRecDepth 20000 in
theorem s166_323 {v : Int32} (hv : v &&& 1 = v) : runv 166 323 ls [.int v] h = some (some (.int v), h) := runv_ret (show vcode 166 323 = some (.ireturn, 1, 0, 0) from rfl) rfl (by simp only [vretv, show vret 166 = some .boolean from rfl, if_pos hv])
set_option maxRecDepth 20000 in
theorem s166_324 {a0 : Option Value} {x : Nat} : runv 166 324 (a0 :: some (.ref x) :: ls) st h = runv 166 325 (a0 :: some (.ref x) :: ls) (.ref x :: st) h := runv_plain (x := (.aload_n 1, 1, 0, 0)) rfl rfl
set_option maxRecDepth 20000 in
theorem s166_325 {x : Nat} : runv 166 325 (some (.ref x) :: ls) st h = runv 166 326 (some (.ref x) :: ls) (.ref x :: st) h := runv_plain (x := (.aload_n 0, 1, 0, 0)) rfl rfl
set_option maxRecDepth 20000 in
theorem s166_326 {a0 a1 a2 : Option Value} {x : Int32} : runv 166 326 (a0 :: a1 :: a2 :: some (.int x) :: ls) st h = runv 166 327 (a0 :: a1 :: a2 :: some (.int x) :: ls) (.int x :: st) h := runv_plain (x := (.iload_n 3, 1, 0, 0)) rfl rfl
set_option maxRecDepth 20000 in
theorem s166_327 : runv 166 327 ls st h = runv 166 328 ls (.int 1 :: st) h := runv_plain (x := (.iconst 1, 1, 0, 0)) rfl rfl
set_option maxRecDepth 20000 in
theorem s166_328 {x y : Int32} : runv 166 328 ls (.int y :: .int x :: st) h = runv 166 329 ls (.int (x + y) :: st) h := runv_plain (x := (.iadd, 1, 0, 0)) rfl rfl
set_option maxRecDepth 20000 in
theorem s166_329 {a : Nat} {i : Int32} : runv 166 329 ls (.int i :: .ref a :: st) h = vld2 h a (fun t => t == 100 || t == 104) i fun v => runv 166 330 ls (v :: st) h := runv_iald (show vcode 166 329 = some (.iaload, 1, 0, 0) from rfl)
set_option maxRecDepth 20000 in
theorem s166_330 {a : Nat} {p0 : Int32} (h1 : st.length ≤ 4) (h2 : vtag h a = 0) : runv 166 330 ls (.int p0 :: .ref a :: st) h = vbind (callv 9 [.ref a, .int p0] h) fun v h' => runv 166 333 ls (vpush v st) h' := runv_call (show vcode 166 330 = some (.invokevirtual 49, 3, 9, 2) from rfl) rfl (vcall_mk rfl rfl h1 (by decide) (vrecv_tag h2 (by decide)) rfl)
set_option maxRecDepth 20000 in
theorem s166_333 {a0 a1 : Option Value} {x : Nat} : runv 166 333 (a0 :: a1 :: some (.ref x) :: ls) st h = runv 166 334 (a0 :: a1 :: some (.ref x) :: ls) (.ref x :: st) h := runv_plain (x := (.aload_n 2, 1, 0, 0)) rfl rfl
set_option maxRecDepth 20000 in
theorem s166_334 {x : Nat} : runv 166 334 (some (.ref x) :: ls) st h = runv 166 335 (some (.ref x) :: ls) (.ref x :: st) h := runv_plain (x := (.aload_n 0, 1, 0, 0)) rfl rfl
set_option maxRecDepth 20000 in
theorem s166_335 {a0 a1 a2 : Option Value} {x : Int32} : runv 166 335 (a0 :: a1 :: a2 :: some (.int x) :: ls) st h = runv 166 336 (a0 :: a1 :: a2 :: some (.int x) :: ls) (.int x :: st) h := runv_plain (x := (.iload_n 3, 1, 0, 0)) rfl rfl
set_option maxRecDepth 20000 in
theorem s166_336 : runv 166 336 ls st h = runv 166 337 ls (.int 1 :: st) h := runv_plain (x := (.iconst 1, 1, 0, 0)) rfl rfl
set_option maxRecDepth 20000 in
theorem s166_337 {x y : Int32} : runv 166 337 ls (.int y :: .int x :: st) h = runv 166 338 ls (.int (x + y) :: st) h := runv_plain (x := (.iadd, 1, 0, 0)) rfl rfl
set_option maxRecDepth 20000 in
theorem s166_338 {a : Nat} {i : Int32} : runv 166 338 ls (.int i :: .ref a :: st) h = vld2 h a (fun t => t == 100 || t == 104) i fun v => runv 166 339 ls (v :: st) h := runv_iald (show vcode 166 338 = some (.iaload, 1, 0, 0) from rfl)
set_option maxRecDepth 20000 in
theorem s166_339 {a : Nat} {p0 : Int32} (h1 : st.length ≤ 4) (h2 : vtag h a = 9) : runv 166 339 ls (.int p0 :: .ref a :: st) h = vbind (callv 44 [.ref a, .int p0] h) fun v h' => runv 166 342 ls (vpush v st) h' := runv_call (show vcode 166 339 = some (.invokevirtual 52, 3, 44, 2) from rfl) rfl (vcall_mk rfl rfl h1 (by decide) (vrecv_tag h2 (by decide)) rfl)
set_option maxRecDepth 20000 in
theorem s166_342 {x y : Int32} : runv 166 342 ls (.int y :: .int x :: st) h = if x = y then runv 166 574 ls st h else runv 166 345 ls st h := (runv_icmp (show vcode 166 342 = some (.if_icmp .eq (232), 3, 0, 0) from rfl) (by decide)).trans (by simp only [vcmp, decide_eq_true_eq]; rfl)
set_option maxRecDepth 20000 in
theorem s166_345 : runv 166 345 ls st h = runv 166 346 ls (.int 0 :: st) h := runv_plain (x := (.iconst 0, 1, 0, 0)) rfl rfl
set_option maxRecDepth 20000 in
theorem s166_346 {v : Int32} (hv : v &&& 1 = v) : runv 166 346 ls [.int v] h = some (some (.int v), h) := runv_ret (show vcode 166 346 = some (.ireturn, 1, 0, 0) from rfl) rfl (by simp only [vretv, show vret 166 = some .boolean from rfl, if_pos hv])
set_option maxRecDepth 20000 in
theorem s166_347 {a0 : Option Value} {x : Nat} : runv 166 347 (a0 :: some (.ref x) :: ls) st h = runv 166 348 (a0 :: some (.ref x) :: ls) (.ref x :: st) h := runv_plain (x := (.aload_n 1, 1, 0, 0)) rfl rfl
set_option maxRecDepth 20000 in
theorem s166_348 {x : Nat} : runv 166 348 (some (.ref x) :: ls) st h = runv 166 349 (some (.ref x) :: ls) (.ref x :: st) h := runv_plain (x := (.aload_n 0, 1, 0, 0)) rfl rfl
set_option maxRecDepth 20000 in
theorem s166_349 {a0 a1 a2 : Option Value} {x : Int32} : runv 166 349 (a0 :: a1 :: a2 :: some (.int x) :: ls) st h = runv 166 350 (a0 :: a1 :: a2 :: some (.int x) :: ls) (.int x :: st) h := runv_plain (x := (.iload_n 3, 1, 0, 0)) rfl rfl
set_option maxRecDepth 20000 in
theorem s166_350 : runv 166 350 ls st h = runv 166 351 ls (.int 1 :: st) h := runv_plain (x := (.iconst 1, 1, 0, 0)) rfl rfl
set_option maxRecDepth 20000 in
theorem s166_351 {x y : Int32} : runv 166 351 ls (.int y :: .int x :: st) h = runv 166 352 ls (.int (x + y) :: st) h := runv_plain (x := (.iadd, 1, 0, 0)) rfl rfl
set_option maxRecDepth 20000 in
theorem s166_352 {a : Nat} {i : Int32} : runv 166 352 ls (.int i :: .ref a :: st) h = vld2 h a (fun t => t == 100 || t == 104) i fun v => runv 166 353 ls (v :: st) h := runv_iald (show vcode 166 352 = some (.iaload, 1, 0, 0) from rfl)
set_option maxRecDepth 20000 in
theorem s166_353 {a : Nat} {p0 : Int32} (h1 : st.length ≤ 4) (h2 : vtag h a = 0) : runv 166 353 ls (.int p0 :: .ref a :: st) h = vbind (callv 10 [.ref a, .int p0] h) fun v h' => runv 166 356 ls (vpush v st) h' := runv_call (show vcode 166 353 = some (.invokevirtual 53, 3, 10, 2) from rfl) rfl (vcall_mk rfl rfl h1 (by decide) (vrecv_tag h2 (by decide)) rfl)
set_option maxRecDepth 20000 in
theorem s166_356 {a0 a1 : Option Value} {x : Nat} : runv 166 356 (a0 :: a1 :: some (.ref x) :: ls) st h = runv 166 357 (a0 :: a1 :: some (.ref x) :: ls) (.ref x :: st) h := runv_plain (x := (.aload_n 2, 1, 0, 0)) rfl rfl
set_option maxRecDepth 20000 in
theorem s166_357 {x : Nat} : runv 166 357 (some (.ref x) :: ls) st h = runv 166 358 (some (.ref x) :: ls) (.ref x :: st) h := runv_plain (x := (.aload_n 0, 1, 0, 0)) rfl rfl
set_option maxRecDepth 20000 in
theorem s166_358 {a0 a1 a2 : Option Value} {x : Int32} : runv 166 358 (a0 :: a1 :: a2 :: some (.int x) :: ls) st h = runv 166 359 (a0 :: a1 :: a2 :: some (.int x) :: ls) (.int x :: st) h := runv_plain (x := (.iload_n 3, 1, 0, 0)) rfl rfl
set_option maxRecDepth 20000 in
theorem s166_359 : runv 166 359 ls st h = runv 166 360 ls (.int 1 :: st) h := runv_plain (x := (.iconst 1, 1, 0, 0)) rfl rfl
set_option maxRecDepth 20000 in
theorem s166_360 {x y : Int32} : runv 166 360 ls (.int y :: .int x :: st) h = runv 166 361 ls (.int (x + y) :: st) h := runv_plain (x := (.iadd, 1, 0, 0)) rfl rfl
set_option maxRecDepth 20000 in
theorem s166_361 {a : Nat} {i : Int32} : runv 166 361 ls (.int i :: .ref a :: st) h = vld2 h a (fun t => t == 100 || t == 104) i fun v => runv 166 362 ls (v :: st) h := runv_iald (show vcode 166 361 = some (.iaload, 1, 0, 0) from rfl)
set_option maxRecDepth 20000 in
theorem s166_362 {a : Nat} {p0 : Int32} (h1 : st.length ≤ 4) (h2 : vtag h a = 9) : runv 166 362 ls (.int p0 :: .ref a :: st) h = vbind (callv 45 [.ref a, .int p0] h) fun v h' => runv 166 365 ls (vpush v st) h' := runv_call (show vcode 166 362 = some (.invokevirtual 56, 3, 45, 2) from rfl) rfl (vcall_mk rfl rfl h1 (by decide) (vrecv_tag h2 (by decide)) rfl)
set_option maxRecDepth 20000 in
theorem s166_365 {x y : Int32} : runv 166 365 ls (.int y :: .int x :: st) h = if x = y then runv 166 574 ls st h else runv 166 368 ls st h := (runv_icmp (show vcode 166 365 = some (.if_icmp .eq (209), 3, 0, 0) from rfl) (by decide)).trans (by simp only [vcmp, decide_eq_true_eq]; rfl)
set_option maxRecDepth 20000 in
theorem s166_368 : runv 166 368 ls st h = runv 166 369 ls (.int 0 :: st) h := runv_plain (x := (.iconst 0, 1, 0, 0)) rfl rfl
set_option maxRecDepth 20000 in
theorem s166_369 {v : Int32} (hv : v &&& 1 = v) : runv 166 369 ls [.int v] h = some (some (.int v), h) := runv_ret (show vcode 166 369 = some (.ireturn, 1, 0, 0) from rfl) rfl (by simp only [vretv, show vret 166 = some .boolean from rfl, if_pos hv])
set_option maxRecDepth 20000 in
theorem s166_370 {a0 : Option Value} {x : Nat} : runv 166 370 (a0 :: some (.ref x) :: ls) st h = runv 166 371 (a0 :: some (.ref x) :: ls) (.ref x :: st) h := runv_plain (x := (.aload_n 1, 1, 0, 0)) rfl rfl
set_option maxRecDepth 20000 in
theorem s166_371 {a : Nat} (h1 : st.length ≤ 4) (h2 : vtag h a = 0) : runv 166 371 ls (.ref a :: st) h = vbind (callv 11 [.ref a] h) fun v h' => runv 166 374 ls (vpush v st) h' := runv_call (show vcode 166 371 = some (.invokevirtual 57, 3, 11, 1) from rfl) rfl (vcall_mk rfl rfl h1 (by decide) (vrecv_tag h2 (by decide)) rfl)
set_option maxRecDepth 20000 in
theorem s166_374 {a0 a1 : Option Value} {x : Nat} : runv 166 374 (a0 :: a1 :: some (.ref x) :: ls) st h = runv 166 375 (a0 :: a1 :: some (.ref x) :: ls) (.ref x :: st) h := runv_plain (x := (.aload_n 2, 1, 0, 0)) rfl rfl
set_option maxRecDepth 20000 in
theorem s166_375 {a : Nat} (h1 : st.length ≤ 4) (h2 : vtag h a = 9) : runv 166 375 ls (.ref a :: st) h = vbind (callv 55 [.ref a] h) fun v h' => runv 166 378 ls (vpush v st) h' := runv_call (show vcode 166 375 = some (.invokevirtual 60, 3, 55, 1) from rfl) rfl (vcall_mk rfl rfl h1 (by decide) (vrecv_tag h2 (by decide)) rfl)
set_option maxRecDepth 20000 in
theorem s166_378 {x y : Int32} : runv 166 378 ls (.int y :: .int x :: st) h = if x = y then runv 166 574 ls st h else runv 166 381 ls st h := (runv_icmp (show vcode 166 378 = some (.if_icmp .eq (196), 3, 0, 0) from rfl) (by decide)).trans (by simp only [vcmp, decide_eq_true_eq]; rfl)
set_option maxRecDepth 20000 in
theorem s166_381 : runv 166 381 ls st h = runv 166 382 ls (.int 0 :: st) h := runv_plain (x := (.iconst 0, 1, 0, 0)) rfl rfl
set_option maxRecDepth 20000 in
theorem s166_382 {v : Int32} (hv : v &&& 1 = v) : runv 166 382 ls [.int v] h = some (some (.int v), h) := runv_ret (show vcode 166 382 = some (.ireturn, 1, 0, 0) from rfl) rfl (by simp only [vretv, show vret 166 = some .boolean from rfl, if_pos hv])
set_option maxRecDepth 20000 in
theorem s166_383 {a0 : Option Value} {x : Nat} : runv 166 383 (a0 :: some (.ref x) :: ls) st h = runv 166 384 (a0 :: some (.ref x) :: ls) (.ref x :: st) h := runv_plain (x := (.aload_n 1, 1, 0, 0)) rfl rfl
set_option maxRecDepth 20000 in
theorem s166_384 {a : Nat} (h1 : st.length ≤ 4) (h2 : vtag h a = 0) : runv 166 384 ls (.ref a :: st) h = vbind (callv 12 [.ref a] h) fun v h' => runv 166 387 ls (vpush v st) h' := runv_call (show vcode 166 384 = some (.invokevirtual 61, 3, 12, 1) from rfl) rfl (vcall_mk rfl rfl h1 (by decide) (vrecv_tag h2 (by decide)) rfl)
set_option maxRecDepth 20000 in
theorem s166_387 {a0 a1 : Option Value} {x : Nat} : runv 166 387 (a0 :: a1 :: some (.ref x) :: ls) st h = runv 166 388 (a0 :: a1 :: some (.ref x) :: ls) (.ref x :: st) h := runv_plain (x := (.aload_n 2, 1, 0, 0)) rfl rfl
set_option maxRecDepth 20000 in
theorem s166_388 {a : Nat} (h1 : st.length ≤ 4) (h2 : vtag h a = 9) : runv 166 388 ls (.ref a :: st) h = vbind (callv 67 [.ref a] h) fun v h' => runv 166 391 ls (vpush v st) h' := runv_call (show vcode 166 388 = some (.invokevirtual 64, 3, 67, 1) from rfl) rfl (vcall_mk rfl rfl h1 (by decide) (vrecv_tag h2 (by decide)) rfl)
set_option maxRecDepth 20000 in
theorem s166_391 {x y : Int32} : runv 166 391 ls (.int y :: .int x :: st) h = if x = y then runv 166 574 ls st h else runv 166 394 ls st h := (runv_icmp (show vcode 166 391 = some (.if_icmp .eq (183), 3, 0, 0) from rfl) (by decide)).trans (by simp only [vcmp, decide_eq_true_eq]; rfl)
set_option maxRecDepth 20000 in
theorem s166_394 : runv 166 394 ls st h = runv 166 395 ls (.int 0 :: st) h := runv_plain (x := (.iconst 0, 1, 0, 0)) rfl rfl
set_option maxRecDepth 20000 in
theorem s166_395 {v : Int32} (hv : v &&& 1 = v) : runv 166 395 ls [.int v] h = some (some (.int v), h) := runv_ret (show vcode 166 395 = some (.ireturn, 1, 0, 0) from rfl) rfl (by simp only [vretv, show vret 166 = some .boolean from rfl, if_pos hv])
set_option maxRecDepth 20000 in
theorem s166_396 {a0 : Option Value} {x : Nat} : runv 166 396 (a0 :: some (.ref x) :: ls) st h = runv 166 397 (a0 :: some (.ref x) :: ls) (.ref x :: st) h := runv_plain (x := (.aload_n 1, 1, 0, 0)) rfl rfl
set_option maxRecDepth 20000 in
theorem s166_397 {a : Nat} (h1 : st.length ≤ 4) (h2 : vtag h a = 0) : runv 166 397 ls (.ref a :: st) h = vbind (callv 13 [.ref a] h) fun v h' => runv 166 400 ls (vpush v st) h' := runv_call (show vcode 166 397 = some (.invokevirtual 65, 3, 13, 1) from rfl) rfl (vcall_mk rfl rfl h1 (by decide) (vrecv_tag h2 (by decide)) rfl)
set_option maxRecDepth 20000 in
theorem s166_400 {a0 a1 : Option Value} {x : Nat} : runv 166 400 (a0 :: a1 :: some (.ref x) :: ls) st h = runv 166 401 (a0 :: a1 :: some (.ref x) :: ls) (.ref x :: st) h := runv_plain (x := (.aload_n 2, 1, 0, 0)) rfl rfl
set_option maxRecDepth 20000 in
theorem s166_401 {a : Nat} (h1 : st.length ≤ 4) (h2 : vtag h a = 9) : runv 166 401 ls (.ref a :: st) h = vbind (callv 68 [.ref a] h) fun v h' => runv 166 404 ls (vpush v st) h' := runv_call (show vcode 166 401 = some (.invokevirtual 68, 3, 68, 1) from rfl) rfl (vcall_mk rfl rfl h1 (by decide) (vrecv_tag h2 (by decide)) rfl)
set_option maxRecDepth 20000 in
theorem s166_404 {x y : Int32} : runv 166 404 ls (.int y :: .int x :: st) h = if x = y then runv 166 574 ls st h else runv 166 407 ls st h := (runv_icmp (show vcode 166 404 = some (.if_icmp .eq (170), 3, 0, 0) from rfl) (by decide)).trans (by simp only [vcmp, decide_eq_true_eq]; rfl)
set_option maxRecDepth 20000 in
theorem s166_407 : runv 166 407 ls st h = runv 166 408 ls (.int 0 :: st) h := runv_plain (x := (.iconst 0, 1, 0, 0)) rfl rfl
set_option maxRecDepth 20000 in
theorem s166_408 {v : Int32} (hv : v &&& 1 = v) : runv 166 408 ls [.int v] h = some (some (.int v), h) := runv_ret (show vcode 166 408 = some (.ireturn, 1, 0, 0) from rfl) rfl (by simp only [vretv, show vret 166 = some .boolean from rfl, if_pos hv])
set_option maxRecDepth 20000 in
theorem s166_409 {a0 : Option Value} {x : Nat} : runv 166 409 (a0 :: some (.ref x) :: ls) st h = runv 166 410 (a0 :: some (.ref x) :: ls) (.ref x :: st) h := runv_plain (x := (.aload_n 1, 1, 0, 0)) rfl rfl
set_option maxRecDepth 20000 in
theorem s166_410 {x : Nat} : runv 166 410 (some (.ref x) :: ls) st h = runv 166 411 (some (.ref x) :: ls) (.ref x :: st) h := runv_plain (x := (.aload_n 0, 1, 0, 0)) rfl rfl
set_option maxRecDepth 20000 in
theorem s166_411 {a0 a1 a2 : Option Value} {x : Int32} : runv 166 411 (a0 :: a1 :: a2 :: some (.int x) :: ls) st h = runv 166 412 (a0 :: a1 :: a2 :: some (.int x) :: ls) (.int x :: st) h := runv_plain (x := (.iload_n 3, 1, 0, 0)) rfl rfl
set_option maxRecDepth 20000 in
theorem s166_412 : runv 166 412 ls st h = runv 166 413 ls (.int 1 :: st) h := runv_plain (x := (.iconst 1, 1, 0, 0)) rfl rfl
set_option maxRecDepth 20000 in
theorem s166_413 {x y : Int32} : runv 166 413 ls (.int y :: .int x :: st) h = runv 166 414 ls (.int (x + y) :: st) h := runv_plain (x := (.iadd, 1, 0, 0)) rfl rfl
set_option maxRecDepth 20000 in
theorem s166_414 {a : Nat} {i : Int32} : runv 166 414 ls (.int i :: .ref a :: st) h = vld2 h a (fun t => t == 100 || t == 104) i fun v => runv 166 415 ls (v :: st) h := runv_iald (show vcode 166 414 = some (.iaload, 1, 0, 0) from rfl)
set_option maxRecDepth 20000 in
theorem s166_415 {x : Nat} : runv 166 415 (some (.ref x) :: ls) st h = runv 166 416 (some (.ref x) :: ls) (.ref x :: st) h := runv_plain (x := (.aload_n 0, 1, 0, 0)) rfl rfl
set_option maxRecDepth 20000 in
theorem s166_416 {a0 a1 a2 : Option Value} {x : Int32} : runv 166 416 (a0 :: a1 :: a2 :: some (.int x) :: ls) st h = runv 166 417 (a0 :: a1 :: a2 :: some (.int x) :: ls) (.int x :: st) h := runv_plain (x := (.iload_n 3, 1, 0, 0)) rfl rfl
set_option maxRecDepth 20000 in
theorem s166_417 : runv 166 417 ls st h = runv 166 418 ls (.int 2 :: st) h := runv_plain (x := (.iconst 2, 1, 0, 0)) rfl rfl
set_option maxRecDepth 20000 in
theorem s166_418 {x y : Int32} : runv 166 418 ls (.int y :: .int x :: st) h = runv 166 419 ls (.int (x + y) :: st) h := runv_plain (x := (.iadd, 1, 0, 0)) rfl rfl
set_option maxRecDepth 20000 in
theorem s166_419 {a : Nat} {i : Int32} : runv 166 419 ls (.int i :: .ref a :: st) h = vld2 h a (fun t => t == 100 || t == 104) i fun v => runv 166 420 ls (v :: st) h := runv_iald (show vcode 166 419 = some (.iaload, 1, 0, 0) from rfl)
set_option maxRecDepth 20000 in
theorem s166_420 {a : Nat} {p0 : Int32} {p1 : Int32} (h1 : st.length ≤ 4) (h2 : vtag h a = 0) : runv 166 420 ls (.int p1 :: .int p0 :: .ref a :: st) h = vbind (callv 14 [.ref a, .int p0, .int p1] h) fun v h' => runv 166 423 ls (vpush v st) h' := runv_call (show vcode 166 420 = some (.invokevirtual 69, 3, 14, 3) from rfl) rfl (vcall_mk rfl rfl h1 (by decide) (vrecv_tag h2 (by decide)) rfl)
set_option maxRecDepth 20000 in
theorem s166_423 {a0 a1 : Option Value} {x : Nat} : runv 166 423 (a0 :: a1 :: some (.ref x) :: ls) st h = runv 166 424 (a0 :: a1 :: some (.ref x) :: ls) (.ref x :: st) h := runv_plain (x := (.aload_n 2, 1, 0, 0)) rfl rfl
set_option maxRecDepth 20000 in
theorem s166_424 {x : Nat} : runv 166 424 (some (.ref x) :: ls) st h = runv 166 425 (some (.ref x) :: ls) (.ref x :: st) h := runv_plain (x := (.aload_n 0, 1, 0, 0)) rfl rfl
set_option maxRecDepth 20000 in
theorem s166_425 {a0 a1 a2 : Option Value} {x : Int32} : runv 166 425 (a0 :: a1 :: a2 :: some (.int x) :: ls) st h = runv 166 426 (a0 :: a1 :: a2 :: some (.int x) :: ls) (.int x :: st) h := runv_plain (x := (.iload_n 3, 1, 0, 0)) rfl rfl
set_option maxRecDepth 20000 in
theorem s166_426 : runv 166 426 ls st h = runv 166 427 ls (.int 1 :: st) h := runv_plain (x := (.iconst 1, 1, 0, 0)) rfl rfl
set_option maxRecDepth 20000 in
theorem s166_427 {x y : Int32} : runv 166 427 ls (.int y :: .int x :: st) h = runv 166 428 ls (.int (x + y) :: st) h := runv_plain (x := (.iadd, 1, 0, 0)) rfl rfl
set_option maxRecDepth 20000 in
theorem s166_428 {a : Nat} {i : Int32} : runv 166 428 ls (.int i :: .ref a :: st) h = vld2 h a (fun t => t == 100 || t == 104) i fun v => runv 166 429 ls (v :: st) h := runv_iald (show vcode 166 428 = some (.iaload, 1, 0, 0) from rfl)
set_option maxRecDepth 20000 in
theorem s166_429 {x : Nat} : runv 166 429 (some (.ref x) :: ls) st h = runv 166 430 (some (.ref x) :: ls) (.ref x :: st) h := runv_plain (x := (.aload_n 0, 1, 0, 0)) rfl rfl
set_option maxRecDepth 20000 in
theorem s166_430 {a0 a1 a2 : Option Value} {x : Int32} : runv 166 430 (a0 :: a1 :: a2 :: some (.int x) :: ls) st h = runv 166 431 (a0 :: a1 :: a2 :: some (.int x) :: ls) (.int x :: st) h := runv_plain (x := (.iload_n 3, 1, 0, 0)) rfl rfl
set_option maxRecDepth 20000 in
theorem s166_431 : runv 166 431 ls st h = runv 166 432 ls (.int 2 :: st) h := runv_plain (x := (.iconst 2, 1, 0, 0)) rfl rfl
set_option maxRecDepth 20000 in
theorem s166_432 {x y : Int32} : runv 166 432 ls (.int y :: .int x :: st) h = runv 166 433 ls (.int (x + y) :: st) h := runv_plain (x := (.iadd, 1, 0, 0)) rfl rfl
set_option maxRecDepth 20000 in
theorem s166_433 {a : Nat} {i : Int32} : runv 166 433 ls (.int i :: .ref a :: st) h = vld2 h a (fun t => t == 100 || t == 104) i fun v => runv 166 434 ls (v :: st) h := runv_iald (show vcode 166 433 = some (.iaload, 1, 0, 0) from rfl)
set_option maxRecDepth 20000 in
theorem s166_434 {a : Nat} {p0 : Int32} {p1 : Int32} (h1 : st.length ≤ 4) (h2 : vtag h a = 9) : runv 166 434 ls (.int p1 :: .int p0 :: .ref a :: st) h = vbind (callv 70 [.ref a, .int p0, .int p1] h) fun v h' => runv 166 437 ls (vpush v st) h' := runv_call (show vcode 166 434 = some (.invokevirtual 73, 3, 70, 3) from rfl) rfl (vcall_mk rfl rfl h1 (by decide) (vrecv_tag h2 (by decide)) rfl)
set_option maxRecDepth 20000 in
theorem s166_437 {x y : Int32} : runv 166 437 ls (.int y :: .int x :: st) h = if x = y then runv 166 574 ls st h else runv 166 440 ls st h := (runv_icmp (show vcode 166 437 = some (.if_icmp .eq (137), 3, 0, 0) from rfl) (by decide)).trans (by simp only [vcmp, decide_eq_true_eq]; rfl)
set_option maxRecDepth 20000 in
theorem s166_440 : runv 166 440 ls st h = runv 166 441 ls (.int 0 :: st) h := runv_plain (x := (.iconst 0, 1, 0, 0)) rfl rfl
set_option maxRecDepth 20000 in
theorem s166_441 {v : Int32} (hv : v &&& 1 = v) : runv 166 441 ls [.int v] h = some (some (.int v), h) := runv_ret (show vcode 166 441 = some (.ireturn, 1, 0, 0) from rfl) rfl (by simp only [vretv, show vret 166 = some .boolean from rfl, if_pos hv])
set_option maxRecDepth 20000 in
theorem s166_442 {a0 : Option Value} {x : Nat} : runv 166 442 (a0 :: some (.ref x) :: ls) st h = runv 166 443 (a0 :: some (.ref x) :: ls) (.ref x :: st) h := runv_plain (x := (.aload_n 1, 1, 0, 0)) rfl rfl
set_option maxRecDepth 20000 in
theorem s166_443 {x : Nat} : runv 166 443 (some (.ref x) :: ls) st h = runv 166 444 (some (.ref x) :: ls) (.ref x :: st) h := runv_plain (x := (.aload_n 0, 1, 0, 0)) rfl rfl
set_option maxRecDepth 20000 in
theorem s166_444 {a0 a1 a2 : Option Value} {x : Int32} : runv 166 444 (a0 :: a1 :: a2 :: some (.int x) :: ls) st h = runv 166 445 (a0 :: a1 :: a2 :: some (.int x) :: ls) (.int x :: st) h := runv_plain (x := (.iload_n 3, 1, 0, 0)) rfl rfl
set_option maxRecDepth 20000 in
theorem s166_445 : runv 166 445 ls st h = runv 166 446 ls (.int 1 :: st) h := runv_plain (x := (.iconst 1, 1, 0, 0)) rfl rfl
set_option maxRecDepth 20000 in
theorem s166_446 {x y : Int32} : runv 166 446 ls (.int y :: .int x :: st) h = runv 166 447 ls (.int (x + y) :: st) h := runv_plain (x := (.iadd, 1, 0, 0)) rfl rfl
set_option maxRecDepth 20000 in
theorem s166_447 {a : Nat} {i : Int32} : runv 166 447 ls (.int i :: .ref a :: st) h = vld2 h a (fun t => t == 100 || t == 104) i fun v => runv 166 448 ls (v :: st) h := runv_iald (show vcode 166 447 = some (.iaload, 1, 0, 0) from rfl)
set_option maxRecDepth 20000 in
theorem s166_448 {x : Nat} : runv 166 448 (some (.ref x) :: ls) st h = runv 166 449 (some (.ref x) :: ls) (.ref x :: st) h := runv_plain (x := (.aload_n 0, 1, 0, 0)) rfl rfl
set_option maxRecDepth 20000 in
theorem s166_449 {a0 a1 a2 : Option Value} {x : Int32} : runv 166 449 (a0 :: a1 :: a2 :: some (.int x) :: ls) st h = runv 166 450 (a0 :: a1 :: a2 :: some (.int x) :: ls) (.int x :: st) h := runv_plain (x := (.iload_n 3, 1, 0, 0)) rfl rfl
set_option maxRecDepth 20000 in
theorem s166_450 : runv 166 450 ls st h = runv 166 451 ls (.int 2 :: st) h := runv_plain (x := (.iconst 2, 1, 0, 0)) rfl rfl
set_option maxRecDepth 20000 in
theorem s166_451 {x y : Int32} : runv 166 451 ls (.int y :: .int x :: st) h = runv 166 452 ls (.int (x + y) :: st) h := runv_plain (x := (.iadd, 1, 0, 0)) rfl rfl
set_option maxRecDepth 20000 in
theorem s166_452 {a : Nat} {i : Int32} : runv 166 452 ls (.int i :: .ref a :: st) h = vld2 h a (fun t => t == 100 || t == 104) i fun v => runv 166 453 ls (v :: st) h := runv_iald (show vcode 166 452 = some (.iaload, 1, 0, 0) from rfl)
set_option maxRecDepth 20000 in
theorem s166_453 {a : Nat} {p0 : Int32} {p1 : Int32} (h1 : st.length ≤ 4) (h2 : vtag h a = 0) : runv 166 453 ls (.int p1 :: .int p0 :: .ref a :: st) h = vbind (callv 15 [.ref a, .int p0, .int p1] h) fun v h' => runv 166 456 ls (vpush v st) h' := runv_call (show vcode 166 453 = some (.invokevirtual 74, 3, 15, 3) from rfl) rfl (vcall_mk rfl rfl h1 (by decide) (vrecv_tag h2 (by decide)) rfl)
set_option maxRecDepth 20000 in
theorem s166_456 {a0 a1 : Option Value} {x : Nat} : runv 166 456 (a0 :: a1 :: some (.ref x) :: ls) st h = runv 166 457 (a0 :: a1 :: some (.ref x) :: ls) (.ref x :: st) h := runv_plain (x := (.aload_n 2, 1, 0, 0)) rfl rfl
set_option maxRecDepth 20000 in
theorem s166_457 {x : Nat} : runv 166 457 (some (.ref x) :: ls) st h = runv 166 458 (some (.ref x) :: ls) (.ref x :: st) h := runv_plain (x := (.aload_n 0, 1, 0, 0)) rfl rfl
set_option maxRecDepth 20000 in
theorem s166_458 {a0 a1 a2 : Option Value} {x : Int32} : runv 166 458 (a0 :: a1 :: a2 :: some (.int x) :: ls) st h = runv 166 459 (a0 :: a1 :: a2 :: some (.int x) :: ls) (.int x :: st) h := runv_plain (x := (.iload_n 3, 1, 0, 0)) rfl rfl
set_option maxRecDepth 20000 in
theorem s166_459 : runv 166 459 ls st h = runv 166 460 ls (.int 1 :: st) h := runv_plain (x := (.iconst 1, 1, 0, 0)) rfl rfl
set_option maxRecDepth 20000 in
theorem s166_460 {x y : Int32} : runv 166 460 ls (.int y :: .int x :: st) h = runv 166 461 ls (.int (x + y) :: st) h := runv_plain (x := (.iadd, 1, 0, 0)) rfl rfl
set_option maxRecDepth 20000 in
theorem s166_461 {a : Nat} {i : Int32} : runv 166 461 ls (.int i :: .ref a :: st) h = vld2 h a (fun t => t == 100 || t == 104) i fun v => runv 166 462 ls (v :: st) h := runv_iald (show vcode 166 461 = some (.iaload, 1, 0, 0) from rfl)
set_option maxRecDepth 20000 in
theorem s166_462 {x : Nat} : runv 166 462 (some (.ref x) :: ls) st h = runv 166 463 (some (.ref x) :: ls) (.ref x :: st) h := runv_plain (x := (.aload_n 0, 1, 0, 0)) rfl rfl
set_option maxRecDepth 20000 in
theorem s166_463 {a0 a1 a2 : Option Value} {x : Int32} : runv 166 463 (a0 :: a1 :: a2 :: some (.int x) :: ls) st h = runv 166 464 (a0 :: a1 :: a2 :: some (.int x) :: ls) (.int x :: st) h := runv_plain (x := (.iload_n 3, 1, 0, 0)) rfl rfl
set_option maxRecDepth 20000 in
theorem s166_464 : runv 166 464 ls st h = runv 166 465 ls (.int 2 :: st) h := runv_plain (x := (.iconst 2, 1, 0, 0)) rfl rfl
set_option maxRecDepth 20000 in
theorem s166_465 {x y : Int32} : runv 166 465 ls (.int y :: .int x :: st) h = runv 166 466 ls (.int (x + y) :: st) h := runv_plain (x := (.iadd, 1, 0, 0)) rfl rfl
set_option maxRecDepth 20000 in
theorem s166_466 {a : Nat} {i : Int32} : runv 166 466 ls (.int i :: .ref a :: st) h = vld2 h a (fun t => t == 100 || t == 104) i fun v => runv 166 467 ls (v :: st) h := runv_iald (show vcode 166 466 = some (.iaload, 1, 0, 0) from rfl)
set_option maxRecDepth 20000 in
theorem s166_467 {a : Nat} {p0 : Int32} {p1 : Int32} (h1 : st.length ≤ 4) (h2 : vtag h a = 9) : runv 166 467 ls (.int p1 :: .int p0 :: .ref a :: st) h = vbind (callv 71 [.ref a, .int p0, .int p1] h) fun v h' => runv 166 470 ls (vpush v st) h' := runv_call (show vcode 166 467 = some (.invokevirtual 77, 3, 71, 3) from rfl) rfl (vcall_mk rfl rfl h1 (by decide) (vrecv_tag h2 (by decide)) rfl)
set_option maxRecDepth 20000 in
theorem s166_470 {x y : Int32} : runv 166 470 ls (.int y :: .int x :: st) h = if x = y then runv 166 574 ls st h else runv 166 473 ls st h := (runv_icmp (show vcode 166 470 = some (.if_icmp .eq (104), 3, 0, 0) from rfl) (by decide)).trans (by simp only [vcmp, decide_eq_true_eq]; rfl)
set_option maxRecDepth 20000 in
theorem s166_473 : runv 166 473 ls st h = runv 166 474 ls (.int 0 :: st) h := runv_plain (x := (.iconst 0, 1, 0, 0)) rfl rfl
set_option maxRecDepth 20000 in
theorem s166_474 {v : Int32} (hv : v &&& 1 = v) : runv 166 474 ls [.int v] h = some (some (.int v), h) := runv_ret (show vcode 166 474 = some (.ireturn, 1, 0, 0) from rfl) rfl (by simp only [vretv, show vret 166 = some .boolean from rfl, if_pos hv])
set_option maxRecDepth 20000 in
theorem s166_475 {a0 : Option Value} {x : Nat} : runv 166 475 (a0 :: some (.ref x) :: ls) st h = runv 166 476 (a0 :: some (.ref x) :: ls) (.ref x :: st) h := runv_plain (x := (.aload_n 1, 1, 0, 0)) rfl rfl
set_option maxRecDepth 20000 in
theorem s166_476 {x : Nat} : runv 166 476 (some (.ref x) :: ls) st h = runv 166 477 (some (.ref x) :: ls) (.ref x :: st) h := runv_plain (x := (.aload_n 0, 1, 0, 0)) rfl rfl
set_option maxRecDepth 20000 in
theorem s166_477 {a0 a1 a2 : Option Value} {x : Int32} : runv 166 477 (a0 :: a1 :: a2 :: some (.int x) :: ls) st h = runv 166 478 (a0 :: a1 :: a2 :: some (.int x) :: ls) (.int x :: st) h := runv_plain (x := (.iload_n 3, 1, 0, 0)) rfl rfl
set_option maxRecDepth 20000 in
theorem s166_478 : runv 166 478 ls st h = runv 166 479 ls (.int 1 :: st) h := runv_plain (x := (.iconst 1, 1, 0, 0)) rfl rfl
set_option maxRecDepth 20000 in
theorem s166_479 {x y : Int32} : runv 166 479 ls (.int y :: .int x :: st) h = runv 166 480 ls (.int (x + y) :: st) h := runv_plain (x := (.iadd, 1, 0, 0)) rfl rfl
set_option maxRecDepth 20000 in
theorem s166_480 {a : Nat} {i : Int32} : runv 166 480 ls (.int i :: .ref a :: st) h = vld2 h a (fun t => t == 100 || t == 104) i fun v => runv 166 481 ls (v :: st) h := runv_iald (show vcode 166 480 = some (.iaload, 1, 0, 0) from rfl)
set_option maxRecDepth 20000 in
theorem s166_481 {x : Nat} : runv 166 481 (some (.ref x) :: ls) st h = runv 166 482 (some (.ref x) :: ls) (.ref x :: st) h := runv_plain (x := (.aload_n 0, 1, 0, 0)) rfl rfl
set_option maxRecDepth 20000 in
theorem s166_482 {a0 a1 a2 : Option Value} {x : Int32} : runv 166 482 (a0 :: a1 :: a2 :: some (.int x) :: ls) st h = runv 166 483 (a0 :: a1 :: a2 :: some (.int x) :: ls) (.int x :: st) h := runv_plain (x := (.iload_n 3, 1, 0, 0)) rfl rfl
set_option maxRecDepth 20000 in
theorem s166_483 : runv 166 483 ls st h = runv 166 484 ls (.int 2 :: st) h := runv_plain (x := (.iconst 2, 1, 0, 0)) rfl rfl
set_option maxRecDepth 20000 in
theorem s166_484 {x y : Int32} : runv 166 484 ls (.int y :: .int x :: st) h = runv 166 485 ls (.int (x + y) :: st) h := runv_plain (x := (.iadd, 1, 0, 0)) rfl rfl
set_option maxRecDepth 20000 in
theorem s166_485 {a : Nat} {i : Int32} : runv 166 485 ls (.int i :: .ref a :: st) h = vld2 h a (fun t => t == 100 || t == 104) i fun v => runv 166 486 ls (v :: st) h := runv_iald (show vcode 166 485 = some (.iaload, 1, 0, 0) from rfl)
set_option maxRecDepth 20000 in
theorem s166_486 {x : Nat} : runv 166 486 (some (.ref x) :: ls) st h = runv 166 487 (some (.ref x) :: ls) (.ref x :: st) h := runv_plain (x := (.aload_n 0, 1, 0, 0)) rfl rfl
set_option maxRecDepth 20000 in
theorem s166_487 {a0 a1 a2 : Option Value} {x : Int32} : runv 166 487 (a0 :: a1 :: a2 :: some (.int x) :: ls) st h = runv 166 488 (a0 :: a1 :: a2 :: some (.int x) :: ls) (.int x :: st) h := runv_plain (x := (.iload_n 3, 1, 0, 0)) rfl rfl
set_option maxRecDepth 20000 in
theorem s166_488 : runv 166 488 ls st h = runv 166 489 ls (.int 3 :: st) h := runv_plain (x := (.iconst 3, 1, 0, 0)) rfl rfl
set_option maxRecDepth 20000 in
theorem s166_489 {x y : Int32} : runv 166 489 ls (.int y :: .int x :: st) h = runv 166 490 ls (.int (x + y) :: st) h := runv_plain (x := (.iadd, 1, 0, 0)) rfl rfl
set_option maxRecDepth 20000 in
theorem s166_490 {a : Nat} {i : Int32} : runv 166 490 ls (.int i :: .ref a :: st) h = vld2 h a (fun t => t == 100 || t == 104) i fun v => runv 166 491 ls (v :: st) h := runv_iald (show vcode 166 490 = some (.iaload, 1, 0, 0) from rfl)
set_option maxRecDepth 20000 in
theorem s166_491 {a : Nat} {p0 : Int32} {p1 : Int32} {p2 : Int32} (h1 : st.length ≤ 4) (h2 : vtag h a = 0) : runv 166 491 ls (.int p2 :: .int p1 :: .int p0 :: .ref a :: st) h = vbind (callv 16 [.ref a, .int p0, .int p1, .int p2] h) fun v h' => runv 166 494 ls (vpush v st) h' := runv_call (show vcode 166 491 = some (.invokevirtual 78, 3, 16, 4) from rfl) rfl (vcall_mk rfl rfl h1 (by decide) (vrecv_tag h2 (by decide)) rfl)
set_option maxRecDepth 20000 in
theorem s166_494 {a0 a1 : Option Value} {x : Nat} : runv 166 494 (a0 :: a1 :: some (.ref x) :: ls) st h = runv 166 495 (a0 :: a1 :: some (.ref x) :: ls) (.ref x :: st) h := runv_plain (x := (.aload_n 2, 1, 0, 0)) rfl rfl
set_option maxRecDepth 20000 in
theorem s166_495 {x : Nat} : runv 166 495 (some (.ref x) :: ls) st h = runv 166 496 (some (.ref x) :: ls) (.ref x :: st) h := runv_plain (x := (.aload_n 0, 1, 0, 0)) rfl rfl
set_option maxRecDepth 20000 in
theorem s166_496 {a0 a1 a2 : Option Value} {x : Int32} : runv 166 496 (a0 :: a1 :: a2 :: some (.int x) :: ls) st h = runv 166 497 (a0 :: a1 :: a2 :: some (.int x) :: ls) (.int x :: st) h := runv_plain (x := (.iload_n 3, 1, 0, 0)) rfl rfl
set_option maxRecDepth 20000 in
theorem s166_497 : runv 166 497 ls st h = runv 166 498 ls (.int 1 :: st) h := runv_plain (x := (.iconst 1, 1, 0, 0)) rfl rfl
set_option maxRecDepth 20000 in
theorem s166_498 {x y : Int32} : runv 166 498 ls (.int y :: .int x :: st) h = runv 166 499 ls (.int (x + y) :: st) h := runv_plain (x := (.iadd, 1, 0, 0)) rfl rfl
set_option maxRecDepth 20000 in
theorem s166_499 {a : Nat} {i : Int32} : runv 166 499 ls (.int i :: .ref a :: st) h = vld2 h a (fun t => t == 100 || t == 104) i fun v => runv 166 500 ls (v :: st) h := runv_iald (show vcode 166 499 = some (.iaload, 1, 0, 0) from rfl)
set_option maxRecDepth 20000 in
theorem s166_500 {x : Nat} : runv 166 500 (some (.ref x) :: ls) st h = runv 166 501 (some (.ref x) :: ls) (.ref x :: st) h := runv_plain (x := (.aload_n 0, 1, 0, 0)) rfl rfl
set_option maxRecDepth 20000 in
theorem s166_501 {a0 a1 a2 : Option Value} {x : Int32} : runv 166 501 (a0 :: a1 :: a2 :: some (.int x) :: ls) st h = runv 166 502 (a0 :: a1 :: a2 :: some (.int x) :: ls) (.int x :: st) h := runv_plain (x := (.iload_n 3, 1, 0, 0)) rfl rfl
set_option maxRecDepth 20000 in
theorem s166_502 : runv 166 502 ls st h = runv 166 503 ls (.int 2 :: st) h := runv_plain (x := (.iconst 2, 1, 0, 0)) rfl rfl
set_option maxRecDepth 20000 in
theorem s166_503 {x y : Int32} : runv 166 503 ls (.int y :: .int x :: st) h = runv 166 504 ls (.int (x + y) :: st) h := runv_plain (x := (.iadd, 1, 0, 0)) rfl rfl
set_option maxRecDepth 20000 in
theorem s166_504 {a : Nat} {i : Int32} : runv 166 504 ls (.int i :: .ref a :: st) h = vld2 h a (fun t => t == 100 || t == 104) i fun v => runv 166 505 ls (v :: st) h := runv_iald (show vcode 166 504 = some (.iaload, 1, 0, 0) from rfl)
set_option maxRecDepth 20000 in
theorem s166_505 {x : Nat} : runv 166 505 (some (.ref x) :: ls) st h = runv 166 506 (some (.ref x) :: ls) (.ref x :: st) h := runv_plain (x := (.aload_n 0, 1, 0, 0)) rfl rfl
set_option maxRecDepth 20000 in
theorem s166_506 {a0 a1 a2 : Option Value} {x : Int32} : runv 166 506 (a0 :: a1 :: a2 :: some (.int x) :: ls) st h = runv 166 507 (a0 :: a1 :: a2 :: some (.int x) :: ls) (.int x :: st) h := runv_plain (x := (.iload_n 3, 1, 0, 0)) rfl rfl
set_option maxRecDepth 20000 in
theorem s166_507 : runv 166 507 ls st h = runv 166 508 ls (.int 3 :: st) h := runv_plain (x := (.iconst 3, 1, 0, 0)) rfl rfl
set_option maxRecDepth 20000 in
theorem s166_508 {x y : Int32} : runv 166 508 ls (.int y :: .int x :: st) h = runv 166 509 ls (.int (x + y) :: st) h := runv_plain (x := (.iadd, 1, 0, 0)) rfl rfl
set_option maxRecDepth 20000 in
theorem s166_509 {a : Nat} {i : Int32} : runv 166 509 ls (.int i :: .ref a :: st) h = vld2 h a (fun t => t == 100 || t == 104) i fun v => runv 166 510 ls (v :: st) h := runv_iald (show vcode 166 509 = some (.iaload, 1, 0, 0) from rfl)
set_option maxRecDepth 20000 in
theorem s166_510 {a : Nat} {p0 : Int32} {p1 : Int32} {p2 : Int32} (h1 : st.length ≤ 4) (h2 : vtag h a = 9) : runv 166 510 ls (.int p2 :: .int p1 :: .int p0 :: .ref a :: st) h = vbind (callv 72 [.ref a, .int p0, .int p1, .int p2] h) fun v h' => runv 166 513 ls (vpush v st) h' := runv_call (show vcode 166 510 = some (.invokevirtual 82, 3, 72, 4) from rfl) rfl (vcall_mk rfl rfl h1 (by decide) (vrecv_tag h2 (by decide)) rfl)
set_option maxRecDepth 20000 in
theorem s166_513 {x y : Int32} : runv 166 513 ls (.int y :: .int x :: st) h = if x = y then runv 166 574 ls st h else runv 166 516 ls st h := (runv_icmp (show vcode 166 513 = some (.if_icmp .eq (61), 3, 0, 0) from rfl) (by decide)).trans (by simp only [vcmp, decide_eq_true_eq]; rfl)
set_option maxRecDepth 20000 in
theorem s166_516 : runv 166 516 ls st h = runv 166 517 ls (.int 0 :: st) h := runv_plain (x := (.iconst 0, 1, 0, 0)) rfl rfl
set_option maxRecDepth 20000 in
theorem s166_517 {v : Int32} (hv : v &&& 1 = v) : runv 166 517 ls [.int v] h = some (some (.int v), h) := runv_ret (show vcode 166 517 = some (.ireturn, 1, 0, 0) from rfl) rfl (by simp only [vretv, show vret 166 = some .boolean from rfl, if_pos hv])
set_option maxRecDepth 20000 in
theorem s166_518 {a0 : Option Value} {x : Nat} : runv 166 518 (a0 :: some (.ref x) :: ls) st h = runv 166 519 (a0 :: some (.ref x) :: ls) (.ref x :: st) h := runv_plain (x := (.aload_n 1, 1, 0, 0)) rfl rfl
set_option maxRecDepth 20000 in
theorem s166_519 {x : Nat} : runv 166 519 (some (.ref x) :: ls) st h = runv 166 520 (some (.ref x) :: ls) (.ref x :: st) h := runv_plain (x := (.aload_n 0, 1, 0, 0)) rfl rfl
set_option maxRecDepth 20000 in
theorem s166_520 {a0 a1 a2 : Option Value} {x : Int32} : runv 166 520 (a0 :: a1 :: a2 :: some (.int x) :: ls) st h = runv 166 521 (a0 :: a1 :: a2 :: some (.int x) :: ls) (.int x :: st) h := runv_plain (x := (.iload_n 3, 1, 0, 0)) rfl rfl
set_option maxRecDepth 20000 in
theorem s166_521 : runv 166 521 ls st h = runv 166 522 ls (.int 1 :: st) h := runv_plain (x := (.iconst 1, 1, 0, 0)) rfl rfl
set_option maxRecDepth 20000 in
theorem s166_522 {x y : Int32} : runv 166 522 ls (.int y :: .int x :: st) h = runv 166 523 ls (.int (x + y) :: st) h := runv_plain (x := (.iadd, 1, 0, 0)) rfl rfl
set_option maxRecDepth 20000 in
theorem s166_523 {a : Nat} {i : Int32} : runv 166 523 ls (.int i :: .ref a :: st) h = vld2 h a (fun t => t == 100 || t == 104) i fun v => runv 166 524 ls (v :: st) h := runv_iald (show vcode 166 523 = some (.iaload, 1, 0, 0) from rfl)
set_option maxRecDepth 20000 in
theorem s166_524 {x : Nat} : runv 166 524 (some (.ref x) :: ls) st h = runv 166 525 (some (.ref x) :: ls) (.ref x :: st) h := runv_plain (x := (.aload_n 0, 1, 0, 0)) rfl rfl
set_option maxRecDepth 20000 in
theorem s166_525 {a0 a1 a2 : Option Value} {x : Int32} : runv 166 525 (a0 :: a1 :: a2 :: some (.int x) :: ls) st h = runv 166 526 (a0 :: a1 :: a2 :: some (.int x) :: ls) (.int x :: st) h := runv_plain (x := (.iload_n 3, 1, 0, 0)) rfl rfl
set_option maxRecDepth 20000 in
theorem s166_526 : runv 166 526 ls st h = runv 166 527 ls (.int 2 :: st) h := runv_plain (x := (.iconst 2, 1, 0, 0)) rfl rfl
set_option maxRecDepth 20000 in
theorem s166_527 {x y : Int32} : runv 166 527 ls (.int y :: .int x :: st) h = runv 166 528 ls (.int (x + y) :: st) h := runv_plain (x := (.iadd, 1, 0, 0)) rfl rfl
set_option maxRecDepth 20000 in
theorem s166_528 {a : Nat} {i : Int32} : runv 166 528 ls (.int i :: .ref a :: st) h = vld2 h a (fun t => t == 100 || t == 104) i fun v => runv 166 529 ls (v :: st) h := runv_iald (show vcode 166 528 = some (.iaload, 1, 0, 0) from rfl)
set_option maxRecDepth 20000 in
theorem s166_529 {a : Nat} {p0 : Int32} {p1 : Int32} (h1 : st.length ≤ 4) (h2 : vtag h a = 0) : runv 166 529 ls (.int p1 :: .int p0 :: .ref a :: st) h = vbind (callv 17 [.ref a, .int p0, .int p1] h) fun v h' => runv 166 532 ls (vpush v st) h' := runv_call (show vcode 166 529 = some (.invokevirtual 83, 3, 17, 3) from rfl) rfl (vcall_mk rfl rfl h1 (by decide) (vrecv_tag h2 (by decide)) rfl)
set_option maxRecDepth 20000 in
theorem s166_532 {a0 a1 : Option Value} {x : Nat} : runv 166 532 (a0 :: a1 :: some (.ref x) :: ls) st h = runv 166 533 (a0 :: a1 :: some (.ref x) :: ls) (.ref x :: st) h := runv_plain (x := (.aload_n 2, 1, 0, 0)) rfl rfl
set_option maxRecDepth 20000 in
theorem s166_533 {x : Nat} : runv 166 533 (some (.ref x) :: ls) st h = runv 166 534 (some (.ref x) :: ls) (.ref x :: st) h := runv_plain (x := (.aload_n 0, 1, 0, 0)) rfl rfl
set_option maxRecDepth 20000 in
theorem s166_534 {a0 a1 a2 : Option Value} {x : Int32} : runv 166 534 (a0 :: a1 :: a2 :: some (.int x) :: ls) st h = runv 166 535 (a0 :: a1 :: a2 :: some (.int x) :: ls) (.int x :: st) h := runv_plain (x := (.iload_n 3, 1, 0, 0)) rfl rfl
set_option maxRecDepth 20000 in
theorem s166_535 : runv 166 535 ls st h = runv 166 536 ls (.int 1 :: st) h := runv_plain (x := (.iconst 1, 1, 0, 0)) rfl rfl
set_option maxRecDepth 20000 in
theorem s166_536 {x y : Int32} : runv 166 536 ls (.int y :: .int x :: st) h = runv 166 537 ls (.int (x + y) :: st) h := runv_plain (x := (.iadd, 1, 0, 0)) rfl rfl
set_option maxRecDepth 20000 in
theorem s166_537 {a : Nat} {i : Int32} : runv 166 537 ls (.int i :: .ref a :: st) h = vld2 h a (fun t => t == 100 || t == 104) i fun v => runv 166 538 ls (v :: st) h := runv_iald (show vcode 166 537 = some (.iaload, 1, 0, 0) from rfl)
set_option maxRecDepth 20000 in
theorem s166_538 {x : Nat} : runv 166 538 (some (.ref x) :: ls) st h = runv 166 539 (some (.ref x) :: ls) (.ref x :: st) h := runv_plain (x := (.aload_n 0, 1, 0, 0)) rfl rfl
set_option maxRecDepth 20000 in
theorem s166_539 {a0 a1 a2 : Option Value} {x : Int32} : runv 166 539 (a0 :: a1 :: a2 :: some (.int x) :: ls) st h = runv 166 540 (a0 :: a1 :: a2 :: some (.int x) :: ls) (.int x :: st) h := runv_plain (x := (.iload_n 3, 1, 0, 0)) rfl rfl
set_option maxRecDepth 20000 in
theorem s166_540 : runv 166 540 ls st h = runv 166 541 ls (.int 2 :: st) h := runv_plain (x := (.iconst 2, 1, 0, 0)) rfl rfl
set_option maxRecDepth 20000 in
theorem s166_541 {x y : Int32} : runv 166 541 ls (.int y :: .int x :: st) h = runv 166 542 ls (.int (x + y) :: st) h := runv_plain (x := (.iadd, 1, 0, 0)) rfl rfl
set_option maxRecDepth 20000 in
theorem s166_542 {a : Nat} {i : Int32} : runv 166 542 ls (.int i :: .ref a :: st) h = vld2 h a (fun t => t == 100 || t == 104) i fun v => runv 166 543 ls (v :: st) h := runv_iald (show vcode 166 542 = some (.iaload, 1, 0, 0) from rfl)
set_option maxRecDepth 20000 in
theorem s166_543 {a : Nat} {p0 : Int32} {p1 : Int32} (h1 : st.length ≤ 4) (h2 : vtag h a = 9) : runv 166 543 ls (.int p1 :: .int p0 :: .ref a :: st) h = vbind (callv 73 [.ref a, .int p0, .int p1] h) fun v h' => runv 166 546 ls (vpush v st) h' := runv_call (show vcode 166 543 = some (.invokevirtual 86, 3, 73, 3) from rfl) rfl (vcall_mk rfl rfl h1 (by decide) (vrecv_tag h2 (by decide)) rfl)
set_option maxRecDepth 20000 in
theorem s166_546 {x y : Int32} : runv 166 546 ls (.int y :: .int x :: st) h = if x = y then runv 166 574 ls st h else runv 166 549 ls st h := (runv_icmp (show vcode 166 546 = some (.if_icmp .eq (28), 3, 0, 0) from rfl) (by decide)).trans (by simp only [vcmp, decide_eq_true_eq]; rfl)
set_option maxRecDepth 20000 in
theorem s166_549 : runv 166 549 ls st h = runv 166 550 ls (.int 0 :: st) h := runv_plain (x := (.iconst 0, 1, 0, 0)) rfl rfl
set_option maxRecDepth 20000 in
theorem s166_550 {v : Int32} (hv : v &&& 1 = v) : runv 166 550 ls [.int v] h = some (some (.int v), h) := runv_ret (show vcode 166 550 = some (.ireturn, 1, 0, 0) from rfl) rfl (by simp only [vretv, show vret 166 = some .boolean from rfl, if_pos hv])
set_option maxRecDepth 20000 in
theorem s166_551 {a0 : Option Value} {x : Nat} : runv 166 551 (a0 :: some (.ref x) :: ls) st h = runv 166 552 (a0 :: some (.ref x) :: ls) (.ref x :: st) h := runv_plain (x := (.aload_n 1, 1, 0, 0)) rfl rfl
set_option maxRecDepth 20000 in
theorem s166_552 {x : Nat} : runv 166 552 (some (.ref x) :: ls) st h = runv 166 553 (some (.ref x) :: ls) (.ref x :: st) h := runv_plain (x := (.aload_n 0, 1, 0, 0)) rfl rfl
set_option maxRecDepth 20000 in
theorem s166_553 {a0 a1 a2 : Option Value} {x : Int32} : runv 166 553 (a0 :: a1 :: a2 :: some (.int x) :: ls) st h = runv 166 554 (a0 :: a1 :: a2 :: some (.int x) :: ls) (.int x :: st) h := runv_plain (x := (.iload_n 3, 1, 0, 0)) rfl rfl
set_option maxRecDepth 20000 in
theorem s166_554 : runv 166 554 ls st h = runv 166 555 ls (.int 1 :: st) h := runv_plain (x := (.iconst 1, 1, 0, 0)) rfl rfl
set_option maxRecDepth 20000 in
theorem s166_555 {x y : Int32} : runv 166 555 ls (.int y :: .int x :: st) h = runv 166 556 ls (.int (x + y) :: st) h := runv_plain (x := (.iadd, 1, 0, 0)) rfl rfl
set_option maxRecDepth 20000 in
theorem s166_556 {a : Nat} {i : Int32} : runv 166 556 ls (.int i :: .ref a :: st) h = vld2 h a (fun t => t == 100 || t == 104) i fun v => runv 166 557 ls (v :: st) h := runv_iald (show vcode 166 556 = some (.iaload, 1, 0, 0) from rfl)
set_option maxRecDepth 20000 in
theorem s166_557 {a : Nat} {p0 : Int32} (h1 : st.length ≤ 4) (h2 : vtag h a = 0) : runv 166 557 ls (.int p0 :: .ref a :: st) h = vbind (callv 18 [.ref a, .int p0] h) fun v h' => runv 166 560 ls (vpush v st) h' := runv_call (show vcode 166 557 = some (.invokevirtual 87, 3, 18, 2) from rfl) rfl (vcall_mk rfl rfl h1 (by decide) (vrecv_tag h2 (by decide)) rfl)
set_option maxRecDepth 20000 in
theorem s166_560 {a0 a1 : Option Value} {x : Nat} : runv 166 560 (a0 :: a1 :: some (.ref x) :: ls) st h = runv 166 561 (a0 :: a1 :: some (.ref x) :: ls) (.ref x :: st) h := runv_plain (x := (.aload_n 2, 1, 0, 0)) rfl rfl
set_option maxRecDepth 20000 in
theorem s166_561 {x : Nat} : runv 166 561 (some (.ref x) :: ls) st h = runv 166 562 (some (.ref x) :: ls) (.ref x :: st) h := runv_plain (x := (.aload_n 0, 1, 0, 0)) rfl rfl
set_option maxRecDepth 20000 in
theorem s166_562 {a0 a1 a2 : Option Value} {x : Int32} : runv 166 562 (a0 :: a1 :: a2 :: some (.int x) :: ls) st h = runv 166 563 (a0 :: a1 :: a2 :: some (.int x) :: ls) (.int x :: st) h := runv_plain (x := (.iload_n 3, 1, 0, 0)) rfl rfl
set_option maxRecDepth 20000 in
theorem s166_563 : runv 166 563 ls st h = runv 166 564 ls (.int 1 :: st) h := runv_plain (x := (.iconst 1, 1, 0, 0)) rfl rfl
set_option maxRecDepth 20000 in
theorem s166_564 {x y : Int32} : runv 166 564 ls (.int y :: .int x :: st) h = runv 166 565 ls (.int (x + y) :: st) h := runv_plain (x := (.iadd, 1, 0, 0)) rfl rfl
set_option maxRecDepth 20000 in
theorem s166_565 {a : Nat} {i : Int32} : runv 166 565 ls (.int i :: .ref a :: st) h = vld2 h a (fun t => t == 100 || t == 104) i fun v => runv 166 566 ls (v :: st) h := runv_iald (show vcode 166 565 = some (.iaload, 1, 0, 0) from rfl)
set_option maxRecDepth 20000 in
theorem s166_566 {a : Nat} {p0 : Int32} (h1 : st.length ≤ 4) (h2 : vtag h a = 9) : runv 166 566 ls (.int p0 :: .ref a :: st) h = vbind (callv 74 [.ref a, .int p0] h) fun v h' => runv 166 569 ls (vpush v st) h' := runv_call (show vcode 166 566 = some (.invokevirtual 90, 3, 74, 2) from rfl) rfl (vcall_mk rfl rfl h1 (by decide) (vrecv_tag h2 (by decide)) rfl)
set_option maxRecDepth 20000 in
theorem s166_569 {x y : Int32} : runv 166 569 ls (.int y :: .int x :: st) h = if x = y then runv 166 574 ls st h else runv 166 572 ls st h := (runv_icmp (show vcode 166 569 = some (.if_icmp .eq (5), 3, 0, 0) from rfl) (by decide)).trans (by simp only [vcmp, decide_eq_true_eq]; rfl)
set_option maxRecDepth 20000 in
theorem s166_572 : runv 166 572 ls st h = runv 166 573 ls (.int 0 :: st) h := runv_plain (x := (.iconst 0, 1, 0, 0)) rfl rfl
set_option maxRecDepth 20000 in
theorem s166_573 {v : Int32} (hv : v &&& 1 = v) : runv 166 573 ls [.int v] h = some (some (.int v), h) := runv_ret (show vcode 166 573 = some (.ireturn, 1, 0, 0) from rfl) rfl (by simp only [vretv, show vret 166 = some .boolean from rfl, if_pos hv])
set_option maxRecDepth 20000 in
theorem s166_574 {a0 a1 a2 : Option Value} {x : Int32} : runv 166 574 (a0 :: a1 :: a2 :: some (.int x) :: ls) st h = runv 166 577 (a0 :: a1 :: a2 :: some (.int (x + 4)) :: ls) st h := runv_plain (x := (.iinc 3 (4), 3, 0, 0)) rfl rfl
set_option maxRecDepth 20000 in
theorem s166_577 : runv 166 577 ls st h = runv 166 18 ls st h := runv_plain (x := (.goto (-559), 3, 0, 0)) rfl rfl
set_option maxRecDepth 20000 in
theorem s166_580 : runv 166 580 ls st h = runv 166 581 ls (.int 1 :: st) h := runv_plain (x := (.iconst 1, 1, 0, 0)) rfl rfl
set_option maxRecDepth 20000 in
theorem s166_581 {v : Int32} (hv : v &&& 1 = v) : runv 166 581 ls [.int v] h = some (some (.int v), h) := runv_ret (show vcode 166 581 = some (.ireturn, 1, 0, 0) from rfl) rfl (by simp only [vretv, show vret 166 = some .boolean from rfl, if_pos hv])
theorem s167_0 : runv 167 0 ls st h = runv 167 1 ls (.int 0 :: st) h := runv_plain (x := (.iconst 0, 1, 0, 0)) rfl rfl
theorem s167_1 {a0 a1 a2 : Option Value} {x : Int32} : runv 167 1 (a0 :: a1 :: a2 :: ls) (.int x :: st) h = runv 167 2 (a0 :: a1 :: some (.int x) :: ls) st h := (runv_plain (x := (.istore_n 2, 1, 0, 0)) rfl rfl).trans (by simp only [vstep, List.length_cons, show ∀ n : Nat, 2 < n + 3 from fun n => by omega, if_true]; rfl)
theorem s167_2 {x : Nat} : runv 167 2 (some (.ref x) :: ls) st h = runv 167 3 (some (.ref x) :: ls) (.ref x :: st) h := runv_plain (x := (.aload_n 0, 1, 0, 0)) rfl rfl
theorem s167_3 {a : Nat} : runv 167 3 ls (.ref a :: st) h = vlen2 h a fun v => runv 167 4 ls (v :: st) h := runv_alen (show vcode 167 3 = some (.arraylength, 1, 0, 0) from rfl)
theorem s167_4 {a0 a1 a2 a3 : Option Value} {x : Int32} : runv 167 4 (a0 :: a1 :: a2 :: a3 :: ls) (.int x :: st) h = runv 167 5 (a0 :: a1 :: a2 :: some (.int x) :: ls) st h := (runv_plain (x := (.istore_n 3, 1, 0, 0)) rfl rfl).trans (by simp only [vstep, List.length_cons, show ∀ n : Nat, 3 < n + 4 from fun n => by omega, if_true]; rfl)
theorem s167_5 {a0 a1 : Option Value} {x : Int32} : runv 167 5 (a0 :: a1 :: some (.int x) :: ls) st h = runv 167 6 (a0 :: a1 :: some (.int x) :: ls) (.int x :: st) h := runv_plain (x := (.iload_n 2, 1, 0, 0)) rfl rfl
theorem s167_6 {a0 a1 a2 : Option Value} {x : Int32} : runv 167 6 (a0 :: a1 :: a2 :: some (.int x) :: ls) st h = runv 167 7 (a0 :: a1 :: a2 :: some (.int x) :: ls) (.int x :: st) h := runv_plain (x := (.iload_n 3, 1, 0, 0)) rfl rfl
theorem s167_7 {x y : Int32} : runv 167 7 ls (.int y :: .int x :: st) h = if y ≤ x then runv 167 20 ls st h else runv 167 10 ls st h := (runv_icmp (show vcode 167 7 = some (.if_icmp .ge (13), 3, 0, 0) from rfl) (by decide)).trans (by simp only [vcmp, decide_eq_true_eq]; rfl)
theorem s167_10 {x : Nat} : runv 167 10 (some (.ref x) :: ls) st h = runv 167 11 (some (.ref x) :: ls) (.ref x :: st) h := runv_plain (x := (.aload_n 0, 1, 0, 0)) rfl rfl
theorem s167_11 {a0 a1 : Option Value} {x : Int32} : runv 167 11 (a0 :: a1 :: some (.int x) :: ls) st h = runv 167 12 (a0 :: a1 :: some (.int x) :: ls) (.int x :: st) h := runv_plain (x := (.iload_n 2, 1, 0, 0)) rfl rfl
theorem s167_12 {a0 : Option Value} {x : Int32} : runv 167 12 (a0 :: some (.int x) :: ls) st h = runv 167 13 (a0 :: some (.int x) :: ls) (.int x :: st) h := runv_plain (x := (.iload_n 1, 1, 0, 0)) rfl rfl
theorem s167_13 {a : Nat} {i v : Int32} : runv 167 13 ls (.int v :: .int i :: .ref a :: st) h = vst2 h a 100 i (.int v) fun h1 => runv 167 14 ls st h1 := runv_iast (show vcode 167 13 = some (.iastore, 1, 0, 0) from rfl)
theorem s167_14 {a0 a1 : Option Value} {x : Int32} : runv 167 14 (a0 :: a1 :: some (.int x) :: ls) st h = runv 167 17 (a0 :: a1 :: some (.int (x + 1)) :: ls) st h := runv_plain (x := (.iinc 2 (1), 3, 0, 0)) rfl rfl
theorem s167_17 : runv 167 17 ls st h = runv 167 5 ls st h := runv_plain (x := (.goto (-12), 3, 0, 0)) rfl rfl
theorem s167_20 : runv 167 20 ls [] h = some (none, h) := runv_ret (show vcode 167 20 = some (.return_, 1, 0, 0) from rfl) rfl rfl
end SROWS
