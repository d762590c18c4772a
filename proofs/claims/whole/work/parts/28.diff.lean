/-! differences -/
def putL (xs : List Nat) : List Nat := if xs.length = 0 then [] else xs.length :: xs
theorem c_writePut {S : vSt} {rc ac Nc rt at_ N s n : Nat} {cs ts : List Nat} (hC : RowIs S rc ac Nc cs) (hT : RowIs S rt at_ N ts) (hr : rc ≠ rt) (ha : ac ≠ at_) (hs : s + n ≤ cs.length) (hN : ts.length + n + 1 ≤ N) : callv 83 [.ref rc, .int (nI s), .int (nI n), .ref rt] (hp S) = some (none, hp (rowSet S rt at_ (ts ++ putL ((cs.drop s).take n)))) := by
  have c5 := hC.2.2.2.2.1
  have c6 := hC.2.2.2.2.2
  have tt := fun S => rowt (S := S) hT.1
  have hlen : ((cs.drop s).take n).length = n := by simp; omega
  show runv 83 0 [some (.ref rc), some (.int (nI s)), some (.int (nI n)), some (.ref rt)] [] (hp S) = _
  simp only [s83_0, s83_1, s83_4, s83_5, s83_6, s83_9, s83_10, s83_11, s83_12, s83_13, s83_16, r83_16, s83_17]
  by_cases h0 : n = 0
  · subst h0
    rw [if_pos (show nI 0 ≤ 0 by decide)]
    simp only [List.take_zero, putL, List.length_nil, if_true, List.append_nil, rowSet_self hT]
  · have hT1 := hT.set (cs := ts ++ [n]) (by simp; omega)
    have hC1 : RowIs (rowSet S rt at_ (ts ++ [n])) rc ac Nc cs := hC.other (cs := []) hr ha
    have e1 := c_add hT (x := n) (by omega)
    have e2 := c_addPart hT1 hC1 (s := s) (n := n) hs (by simp; omega)
    rw [if_neg (show ¬ nI n ≤ 0 from nI_nle (by omega) (by omega))]
    simp only [s83_0, s83_1, s83_4, s83_5, s83_6, s83_9, s83_10, s83_11, s83_12, s83_13, s83_16, r83_16, s83_17, List.length_cons, List.length_nil, Nat.reduceAdd, Nat.reduceLeDiff, Nat.zero_le, tt, e1, e2, vbind_some, vpush_some, vpush_none]
    rw [rowSet_grow (by simp), putL, hlen, if_neg h0]
    simp only [List.append_assoc]
    rfl
def lpF (B C : List Nat) (p : Nat) : Nat → Nat → Nat → Nat → Nat
  | 0, _, best, _ => best
  | k + 1, place, best, longest => if longest < commN (C.drop p) (B.drop place) then lpF B C p k (place + 1) place (commN (C.drop p) (B.drop place)) else lpF B C p k (place + 1) best longest
def lpl (B C : List Nat) (p : Nat) : Nat := lpF B C p B.length 0 0 0
theorem lpF_le (B C : List Nat) (p : Nat) : ∀ k place best longest, place + k = B.length → best ≤ B.length → lpF B C p k place best longest ≤ B.length := by
  intro k
  induction k with
  | zero => intro place best longest _ hb; exact hb
  | succ k ih =>
    intro place best longest hk hb
    unfold lpF
    split
    · exact ih _ _ _ (by omega) (by omega)
    · exact ih _ _ _ (by omega) hb
theorem c_longest_loop {S : vSt} {rb ab Nb rc ac Nc p : Nat} {B C : List Nat} (hB : RowIs S rb ab Nb B) (hC : RowIs S rc ac Nc C) (bb : ∀ x ∈ B, x < 256) (bc : ∀ x ∈ C, x < 256) (hp0 : p ≤ C.length) : ∀ k place best longest w, place + k = B.length → best ≤ B.length → longest ≤ C.length → runv 84 8 [some (.ref rb), some (.ref rc), some (.int (nI p)), some (.int (nI best)), some (.int (nI longest)), some (.int (nI place)), w] [] (hp S) = some (some (.int (nI (lpF B C p k place best longest))), hp S) := by
  have b5 := hB.2.2.2.2.1
  have b6 := hB.2.2.2.2.2
  have c5 := hC.2.2.2.2.1
  have c6 := hC.2.2.2.2.2
  have tb := rowt (S := S) hB.1
  have tc := rowt (S := S) hC.1
  intro k
  induction k with
  | zero =>
    intro place best longest w hk h1 h2
    rw [s84_8]
    simp only [s84_0, s84_1, s84_2, s84_3, s84_5, s84_6, s84_10, s84_11, s84_14, s84_17, s84_18, s84_19, s84_20, s84_22, s84_25, s84_27, s84_29, s84_31, s84_34, s84_36, s84_38, s84_40, s84_41, s84_44, s84_47, s84_48, List.length_cons, List.length_nil, Nat.reduceAdd, Nat.reduceLeDiff, Nat.zero_le, tb, c_used hB, vbind_some, vpush_some]
    rw [if_pos (nI_le (by omega) (by omega))]
    rfl
  | succ k ih =>
    intro place best longest w hk h1 h2
    have hcm := commN_le (C.drop p) (B.drop place)
    simp only [List.length_drop] at hcm
    rw [s84_8]
    simp only [s84_0, s84_1, s84_2, s84_3, s84_5, s84_6, s84_10, s84_11, s84_14, s84_17, s84_18, s84_19, s84_20, s84_22, s84_25, s84_27, s84_29, s84_31, s84_34, s84_36, s84_38, s84_40, s84_41, s84_44, s84_47, s84_48, List.length_cons, List.length_nil, Nat.reduceAdd, Nat.reduceLeDiff, Nat.zero_le, tb, tc, c_used hB, c_commonFrom hC hB bc bb hp0 (show place ≤ B.length by omega), vbind_some, vpush_some, nI_1]
    rw [if_neg (nI_ge (by omega) (by omega)), lpF]
    by_cases h3 : longest < commN (C.drop p) (B.drop place)
    · rw [if_neg (nI_ge h3 (by omega)), if_pos h3]
      exact ih _ _ _ _ (by omega) (by omega) (by omega)
    · rw [if_pos (nI_le (by omega) (by omega)), if_neg h3]
      exact ih _ _ _ _ (by omega) h1 h2
theorem c_longest {S : vSt} {rb ab Nb rc ac Nc p : Nat} {B C : List Nat} (hB : RowIs S rb ab Nb B) (hC : RowIs S rc ac Nc C) (bb : ∀ x ∈ B, x < 256) (bc : ∀ x ∈ C, x < 256) (hp0 : p ≤ C.length) : callv 84 [.ref rb, .ref rc, .int (nI p)] (hp S) = some (some (.int (nI (lpl B C p))), hp S) := by
  show runv 84 0 [some (.ref rb), some (.ref rc), some (.int (nI p)), none, none, none, none] [] (hp S) = _
  simp only [s84_0, s84_1, s84_2, s84_3, s84_5, s84_6]
  rw [show (0 : Int32) = nI 0 from rfl]
  exact c_longest_loop hB hC bb bc hp0 B.length 0 0 0 none (by omega) (by omega) (by omega)
def diffF (B C : List Nat) : Nat → Nat → Nat → List Nat
  | 0, _, w => putL ((C.drop (C.length - w)).take w)
  | n + 1, p, w => if p < C.length then
      if 3 ≤ commN (C.drop p) (B.drop (lpl B C p)) then putL ((C.drop (p - w)).take w) ++ (128 + commN (C.drop p) (B.drop (lpl B C p)) :: lpl B C p :: diffF B C n (p + commN (C.drop p) (B.drop (lpl B C p))) 0)
      else diffF B C n (p + 1) (w + 1)
    else putL ((C.drop (C.length - w)).take w)
def diffL (B C : List Nat) : List Nat := B.length :: C.length :: diffF B C (C.length + 1) 0 0
theorem putL_len {xs : List Nat} {n : Nat} (h : xs.length = n) : (putL xs).length = if n = 0 then 0 else n + 1 := by
  unfold putL
  rw [h]
  split
  · rfl
  · rw [List.length_cons, h]
theorem c_diff_loop {rb ab Nb rc ac Nc rt at_ N : Nat} {B C : List Nat} (bb : ∀ x ∈ B, x < 256) (bc : ∀ x ∈ C, x < 256) (hr1 : rb ≠ rt) (ha1 : ab ≠ at_) (hr2 : rc ≠ rt) (ha2 : ac ≠ at_) : ∀ n p w S ts w4 w6 w7, RowIs S rb ab Nb B → RowIs S rc ac Nc C → RowIs S rt at_ N ts → C.length < p + n → p ≤ C.length → w ≤ p → ts.length + 2 * (C.length - p) + w + 1 ≤ N → runv 82 25 [some (.ref rb), some (.ref rc), some (.ref rt), some (.int (nI w)), w4, some (.int (nI p)), w6, w7] [] (hp S) = some (none, hp (rowSet S rt at_ (ts ++ diffF B C n p w))) := by
  intro n
  induction n with
  | zero => intro p w S ts w4 w6 w7 hB hC hT hp0 hpl hw hN; omega
  | succ n ih =>
    intro p w S ts w4 w6 w7 hB hC hT hp0 hpl hw hN
    have b5 := hB.2.2.2.2.1
    have b6 := hB.2.2.2.2.2
    have c5 := hC.2.2.2.2.1
    have c6 := hC.2.2.2.2.2
    have tb := fun S => rowt (S := S) hB.1
    have tc := fun S => rowt (S := S) hC.1
    have tt := fun S => rowt (S := S) hT.1
    rw [s82_25]
    simp only [s82_0, s82_1, s82_4, s82_5, s82_6, s82_9, s82_12, s82_13, s82_14, s82_17, s82_20, s82_21, s82_22, s82_23, s82_27, s82_28, s82_31, s82_34, s82_35, s82_36, s82_38, s82_41, s82_43, s82_44, s82_46, s82_47, s82_49, s82_52, s82_54, s82_56, s82_57, s82_60, s82_61, s82_63, s82_64, s82_65, s82_66, s82_67, s82_70, s82_71, s82_72, s82_73, s82_76, s82_78, s82_79, s82_82, s82_83, s82_85, s82_88, s82_90, s82_92, s82_95, s82_98, s82_99, s82_101, s82_103, s82_105, s82_106, s82_108, s82_111, s82_112, s82_113, s82_116, s82_117, s82_118, s82_119, s82_120, s82_123, List.length_cons, List.length_nil, Nat.reduceAdd, Nat.reduceLeDiff, Nat.zero_le, tc, c_used hC, vbind_some, vpush_some]
    rw [diffF]
    by_cases h1 : p < C.length
    · rw [if_neg (nI_ge h1 (by omega)), if_pos h1]
      have hlp : lpl B C p ≤ B.length := lpF_le B C p B.length 0 0 0 (by omega) (by omega)
      have hcm := commN_le (C.drop p) (B.drop (lpl B C p))
      simp only [List.length_drop] at hcm
      have e0 := c_longest hB hC bb bc (p := p) (by omega)
      have e1 := c_commonFrom hC hB bc bb (p := p) (q := lpl B C p) (by omega) hlp
      generalize hm : commN (C.drop p) (B.drop (lpl B C p)) = m at e1 hcm ⊢
      generalize lpl B C p = pl at e0 e1 hcm hlp hm ⊢
      simp only [s82_0, s82_1, s82_4, s82_5, s82_6, s82_9, s82_12, s82_13, s82_14, s82_17, s82_20, s82_21, s82_22, s82_23, s82_27, s82_28, s82_31, s82_34, s82_35, s82_36, s82_38, s82_41, s82_43, s82_44, s82_46, s82_47, s82_49, s82_52, s82_54, s82_56, s82_57, s82_60, s82_61, s82_63, s82_64, s82_65, s82_66, s82_67, s82_70, s82_71, s82_72, s82_73, s82_76, s82_78, s82_79, s82_82, s82_83, s82_85, s82_88, s82_90, s82_92, s82_95, s82_98, s82_99, s82_101, s82_103, s82_105, s82_106, s82_108, s82_111, s82_112, s82_113, s82_116, s82_117, s82_118, s82_119, s82_120, s82_123, List.length_cons, List.length_nil, Nat.reduceAdd, Nat.reduceLeDiff, Nat.zero_le, tc, e0, e1, vbind_some, vpush_some]
      by_cases h3 : 3 ≤ m
      · rw [if_neg (show ¬ nI m < 3 from nI_nlt (b := 3) h3 (by omega)), if_pos h3]
        have hpl2 : ((C.drop (p - w)).take w).length = w := by simp; omega
        have hput : (putL ((C.drop (p - w)).take w)).length ≤ w + 1 := by rw [putL_len hpl2]; split <;> omega
        have e2 := c_writePut hC hT hr2 ha2 (s := p - w) (n := w) (by omega) (by omega)
        have hT1 := hT.set (cs := ts ++ putL ((C.drop (p - w)).take w)) (by simp; omega)
        have e3 := c_add hT1 (x := 128 + m) (by simp; omega)
        have hT2 := hT1.set (cs := ts ++ putL ((C.drop (p - w)).take w) ++ [128 + m]) (by simp; omega)
        have e4 := c_add hT2 (x := pl) (by simp; omega)
        have hT3 := hT2.set (cs := ts ++ putL ((C.drop (p - w)).take w) ++ [128 + m] ++ [pl]) (by simp; omega)
        have hB3 := ((hB.other (cs := []) (ds := ts ++ putL ((C.drop (p - w)).take w)) hr1 ha1).other (cs := []) (ds := ts ++ putL ((C.drop (p - w)).take w) ++ [128 + m]) hr1 ha1).other (cs := []) (ds := ts ++ putL ((C.drop (p - w)).take w) ++ [128 + m] ++ [pl]) hr1 ha1
        have hC3 := ((hC.other (cs := []) (ds := ts ++ putL ((C.drop (p - w)).take w)) hr2 ha2).other (cs := []) (ds := ts ++ putL ((C.drop (p - w)).take w) ++ [128 + m]) hr2 ha2).other (cs := []) (ds := ts ++ putL ((C.drop (p - w)).take w) ++ [128 + m] ++ [pl]) hr2 ha2
        simp only [s82_0, s82_1, s82_4, s82_5, s82_6, s82_9, s82_12, s82_13, s82_14, s82_17, s82_20, s82_21, s82_22, s82_23, s82_27, s82_28, s82_31, s82_34, s82_35, s82_36, s82_38, s82_41, s82_43, s82_44, s82_46, s82_47, s82_49, s82_52, s82_54, s82_56, s82_57, s82_60, s82_61, s82_63, s82_64, s82_65, s82_66, s82_67, s82_70, s82_71, s82_72, s82_73, s82_76, s82_78, s82_79, s82_82, s82_83, s82_85, s82_88, s82_90, s82_92, s82_95, s82_98, s82_99, s82_101, s82_103, s82_105, s82_106, s82_108, s82_111, s82_112, s82_113, s82_116, s82_117, s82_118, s82_119, s82_120, s82_123, List.length_cons, List.length_nil, Nat.reduceAdd, Nat.reduceLeDiff, Nat.zero_le, tt, pk_sub hw, e2, show (128 : Int32) = nI 128 from rfl, nI_add, e3, e4, vbind_some, vpush_some, vpush_none]
        rw [show (0 : Int32) = nI 0 from rfl, ih _ _ _ _ _ _ _ hB3 hC3 hT3 (by omega) (by omega) (by omega) (by simp; omega)]
        rw [rowSet_grow (by simp), rowSet_grow (by simp), rowSet_grow (by simp)]
        simp only [List.append_assoc]
        rfl
      · rw [if_pos (show nI m < 3 from nI_lt (b := 3) (by omega) (by omega)), if_neg h3]
        simp only [s82_0, s82_1, s82_4, s82_5, s82_6, s82_9, s82_12, s82_13, s82_14, s82_17, s82_20, s82_21, s82_22, s82_23, s82_27, s82_28, s82_31, s82_34, s82_35, s82_36, s82_38, s82_41, s82_43, s82_44, s82_46, s82_47, s82_49, s82_52, s82_54, s82_56, s82_57, s82_60, s82_61, s82_63, s82_64, s82_65, s82_66, s82_67, s82_70, s82_71, s82_72, s82_73, s82_76, s82_78, s82_79, s82_82, s82_83, s82_85, s82_88, s82_90, s82_92, s82_95, s82_98, s82_99, s82_101, s82_103, s82_105, s82_106, s82_108, s82_111, s82_112, s82_113, s82_116, s82_117, s82_118, s82_119, s82_120, s82_123, nI_1]
        exact ih _ _ _ _ _ _ _ hB hC hT (by omega) (by omega) (by omega) (by omega)
    · rw [if_pos (nI_le (by omega) (by omega)), if_neg h1]
      have e2 := c_writePut hC hT hr2 ha2 (s := C.length - w) (n := w) (by omega) (by omega)
      simp only [s82_0, s82_1, s82_4, s82_5, s82_6, s82_9, s82_12, s82_13, s82_14, s82_17, s82_20, s82_21, s82_22, s82_23, s82_27, s82_28, s82_31, s82_34, s82_35, s82_36, s82_38, s82_41, s82_43, s82_44, s82_46, s82_47, s82_49, s82_52, s82_54, s82_56, s82_57, s82_60, s82_61, s82_63, s82_64, s82_65, s82_66, s82_67, s82_70, s82_71, s82_72, s82_73, s82_76, s82_78, s82_79, s82_82, s82_83, s82_85, s82_88, s82_90, s82_92, s82_95, s82_98, s82_99, s82_101, s82_103, s82_105, s82_106, s82_108, s82_111, s82_112, s82_113, s82_116, s82_117, s82_118, s82_119, s82_120, s82_123, List.length_cons, List.length_nil, Nat.reduceAdd, Nat.reduceLeDiff, Nat.zero_le, tc, c_used hC, pk_sub (show w ≤ C.length by omega), e2, vbind_some, vpush_some, vpush_none]
theorem c_diff {S : vSt} {rb ab Nb rc ac Nc rt at_ N : Nat} {B C : List Nat} (hB : RowIs S rb ab Nb B) (hC : RowIs S rc ac Nc C) (hrt : isRow rt at_) (hl : (S.2 at_).length = N) (hN1 : N ≤ 10000) (bb : ∀ x ∈ B, x < 256) (bc : ∀ x ∈ C, x < 256) (hr1 : rb ≠ rt) (ha1 : ab ≠ at_) (hr2 : rc ≠ rt) (ha2 : ac ≠ at_) (hN : 3 + 2 * C.length ≤ N) : callv 82 [.ref rb, .ref rc, .ref rt] (hp S) = some (none, hp (rowSet S rt at_ (diffL B C))) := by
  have tb := fun S => rowt (S := S) hB.1
  have tc := fun S => rowt (S := S) hC.1
  have tt := fun S => rowt (S := S) hrt
  have hT0 := row_nil (S := S) hrt hl hN1
  have hB0 : RowIs (fu S rt 1 0) rb ab Nb B := hB.fu hr1
  have hC0 : RowIs (fu S rt 1 0) rc ac Nc C := hC.fu hr2
  have e1 := c_add hT0 (x := B.length) (by simp; omega)
  have hT1 := hT0.set (cs := [] ++ [B.length]) (by simp; omega)
  have hB1 : RowIs (rowSet (fu S rt 1 0) rt at_ ([] ++ [B.length])) rb ab Nb B := hB0.other (cs := []) hr1 ha1
  have hC1 : RowIs (rowSet (fu S rt 1 0) rt at_ ([] ++ [B.length])) rc ac Nc C := hC0.other (cs := []) hr2 ha2
  have e2 := c_add hT1 (x := C.length) (by simp; omega)
  have hT2 := hT1.set (cs := [] ++ [B.length] ++ [C.length]) (by simp; omega)
  have hB2 : RowIs (rowSet (rowSet (fu S rt 1 0) rt at_ ([] ++ [B.length])) rt at_ ([] ++ [B.length] ++ [C.length])) rb ab Nb B := hB1.other (cs := []) hr1 ha1
  have hC2 : RowIs (rowSet (rowSet (fu S rt 1 0) rt at_ ([] ++ [B.length])) rt at_ ([] ++ [B.length] ++ [C.length])) rc ac Nc C := hC1.other (cs := []) hr2 ha2
  show runv 82 0 [some (.ref rb), some (.ref rc), some (.ref rt), none, none, none, none, none] [] (hp S) = _
  simp only [s82_0, s82_1, s82_4, s82_5, s82_6, s82_9, s82_12, s82_13, s82_14, s82_17, s82_20, s82_21, s82_22, s82_23, List.length_cons, List.length_nil, Nat.reduceAdd, Nat.reduceLeDiff, Nat.zero_le, tb, tc, tt, c_clear0 hrt, c_used hB0, c_used hC1, e1, e2, vbind_some, vpush_some, vpush_none]
  rw [show (0 : Int32) = nI 0 from rfl]
  rw [c_diff_loop bb bc hr1 ha1 hr2 ha2 (C.length + 1) 0 0 _ _ none none none hB2 hC2 hT2 (by omega) (by omega) (by omega) (by simp; omega)]
  have e3 : ∀ cs, rowSet (fu S rt 1 (nI 0)) rt at_ cs = rowSet S rt at_ cs := by
    intro cs
    refine Prod.ext ?_ rfl
    funext b j
    simp only [rowSet, au_1, fu]
    split <;> rfl
  rw [show (0 : Int32) = nI 0 from rfl, rowSet_grow (by simp), rowSet_grow (by simp), e3]
  rfl
