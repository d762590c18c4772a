/-! differences -/
def putL (xs : List Nat) : List Nat := if xs.length = 0 then [] else xs.length :: xs
theorem c_writePut {S : vSt} {rc ac Nc rt at_ N s n : Nat} {cs ts : List Nat} (hC : RowIs S rc ac Nc cs) (hT : RowIs S rt at_ N ts) (hr : rc ≠ rt) (ha : ac ≠ at_) (hs : s + n ≤ cs.length) (hN : ts.length + n + 1 ≤ N) : callv 83 [.ref rc, .int (nI s), .int (nI n), .ref rt] (hp S) = some (none, hp (rowSet S rt at_ (ts ++ putL ((cs.drop s).take n)))) := by
  have c5 := hC.2.2.2.2.1
  have c6 := hC.2.2.2.2.2
  have tt := fun S => rowt (S := S) hT.1
  have hlen : ((cs.drop s).take n).length = n := by simp; omega
  show runv 83 0 [some (.ref rc), some (.int (nI s)), some (.int (nI n)), some (.ref rt)] [] (hp S) = _
  simp only [s83_0, s83_1, s83_4, s83_5, s83_6, s83_9, s83_10, s83_11, s83_12, s83_13, s83_16, r83_16, s83_17]
  by_cases h0 : n = 0
  · subst h0
    rw [if_pos (show nI 0 ≤ 0 by decide)]
    simp only [List.take_zero, putL, List.length_nil, if_true, List.append_nil, rowSet_self hT]
  · have hT1 := hT.set (cs := ts ++ [n]) (by simp; omega)
    have hC1 : RowIs (rowSet S rt at_ (ts ++ [n])) rc ac Nc cs := hC.other hr ha
    have e1 := c_add hT (x := n) (by omega)
    have e2 := c_addPart hT1 hC1 (s := s) (n := n) hs (by simp; omega)
    rw [if_neg (show ¬ nI n ≤ 0 from nI_nle (by omega) (by omega))]
    simp only [s83_0, s83_1, s83_4, s83_5, s83_6, s83_9, s83_10, s83_11, s83_12, s83_13, s83_16, r83_16, s83_17, List.length_cons, List.length_nil, Nat.reduceAdd, Nat.reduceLeDiff, Nat.zero_le, tt, e1, e2, vbind_some, vpush_some, vpush_none]
    rw [rowSet_grow (by simp), putL, hlen, if_neg h0]
    simp only [List.append_assoc]
    rfl
def lpF (B C : List Nat) (p : Nat) : Nat → Nat → Nat → Nat → Nat
  | 0, _, best, _ => best
  | k + 1, place, best, longest => if longest < commN (C.drop p) (B.drop place) then lpF B C p k (place + 1) place (commN (C.drop p) (B.drop place)) else lpF B C p k (place + 1) best longest
def lpl (B C : List Nat) (p : Nat) : Nat := lpF B C p B.length 0 0 0
theorem lpF_le (B C : List Nat) (p : Nat) : ∀ k place best longest, place + k = B.length → best ≤ B.length → lpF B C p k place best longest ≤ B.length := by
  intro k
  induction k with
  | zero => intro place best longest _ hb; exact hb
  | succ k ih =>
    intro place best longest hk hb
    unfold lpF
    split
    · exact ih _ _ _ (by omega) (by omega)
    · exact ih _ _ _ (by omega) hb
theorem c_longest_loop {S : vSt} {rb ab Nb rc ac Nc p : Nat} {B C : List Nat} (hB : RowIs S rb ab Nb B) (hC : RowIs S rc ac Nc C) (bb : ∀ x ∈ B, x < 256) (bc : ∀ x ∈ C, x < 256) (hp0 : p ≤ C.length) : ∀ k place best longest w, place + k = B.length → best ≤ B.length → longest ≤ C.length → runv 84 8 [some (.ref rb), some (.ref rc), some (.int (nI p)), some (.int (nI best)), some (.int (nI longest)), some (.int (nI place)), w] [] (hp S) = some (some (.int (nI (lpF B C p k place best longest))), hp S) := by
  have b5 := hB.2.2.2.2.1
  have b6 := hB.2.2.2.2.2
  have c5 := hC.2.2.2.2.1
  have c6 := hC.2.2.2.2.2
  have tb := rowt (S := S) hB.1
  have tc := rowt (S := S) hC.1
  intro k
  induction k with
  | zero =>
    intro place best longest w hk h1 h2
    rw [s84_8]
    simp only [s84_0, s84_1, s84_2, s84_3, s84_5, s84_6, s84_10, s84_11, s84_14, s84_17, s84_18, s84_19, s84_20, s84_22, s84_25, s84_27, s84_29, s84_31, s84_34, s84_36, s84_38, s84_40, s84_41, s84_44, s84_47, s84_48, List.length_cons, List.length_nil, Nat.reduceAdd, Nat.reduceLeDiff, Nat.zero_le, tb, c_used hB, vbind_some, vpush_some]
    rw [if_pos (nI_le (by omega) (by omega))]
    rfl
  | succ k ih =>
    intro place best longest w hk h1 h2
    have hcm := commN_le (C.drop p) (B.drop place)
    simp only [List.length_drop] at hcm
    rw [s84_8]
    simp only [s84_0, s84_1, s84_2, s84_3, s84_5, s84_6, s84_10, s84_11, s84_14, s84_17, s84_18, s84_19, s84_20, s84_22, s84_25, s84_27, s84_29, s84_31, s84_34, s84_36, s84_38, s84_40, s84_41, s84_44, s84_47, s84_48, List.length_cons, List.length_nil, Nat.reduceAdd, Nat.reduceLeDiff, Nat.zero_le, tb, tc, c_used hB, c_commonFrom hC hB bc bb hp0 (show place ≤ B.length by omega), vbind_some, vpush_some, nI_1]
    rw [if_neg (nI_ge (by omega) (by omega)), lpF]
    by_cases h3 : longest < commN (C.drop p) (B.drop place)
    · rw [if_neg (nI_ge h3 (by omega)), if_pos h3]
      exact ih _ _ _ _ (by omega) (by omega) (by omega)
    · rw [if_pos (nI_le (by omega) (by omega)), if_neg h3]
      exact ih _ _ _ _ (by omega) h1 h2
theorem c_longest {S : vSt} {rb ab Nb rc ac Nc p : Nat} {B C : List Nat} (hB : RowIs S rb ab Nb B) (hC : RowIs S rc ac Nc C) (bb : ∀ x ∈ B, x < 256) (bc : ∀ x ∈ C, x < 256) (hp0 : p ≤ C.length) : callv 84 [.ref rb, .ref rc, .int (nI p)] (hp S) = some (some (.int (nI (lpl B C p))), hp S) := by
  show runv 84 0 [some (.ref rb), some (.ref rc), some (.int (nI p)), none, none, none, none] [] (hp S) = _
  simp only [s84_0, s84_1, s84_2, s84_3, s84_5, s84_6]
  rw [show (0 : Int32) = nI 0 from rfl]
  exact c_longest_loop hB hC bb bc hp0 B.length 0 0 0 none (by omega) (by omega) (by omega)
def diffF (B C : List Nat) : Nat → Nat → Nat → List Nat
  | 0, _, w => putL ((C.drop (C.length - w)).take w)
  | n + 1, p, w => if p < C.length then
      if 3 ≤ commN (C.drop p) (B.drop (lpl B C p)) then putL ((C.drop (p - w)).take w) ++ ((128 + commN (C.drop p) (B.drop (lpl B C p))) :: lpl B C p :: diffF B C n (p + commN (C.drop p) (B.drop (lpl B C p))) 0)
      else diffF B C n (p + 1) (w + 1)
    else putL ((C.drop (C.length - w)).take w)
def diffL (B C : List Nat) : List Nat := B.length :: C.length :: diffF B C (C.length + 1) 0 0
theorem putL_len {xs : List Nat} {n : Nat} (h : xs.length = n) : (putL xs).length = if n = 0 then 0 else n + 1 := by
  unfold putL
  rw [h]
  split
  · rfl
  · rw [List.length_cons, h]
theorem c_diff_loop {rb ab Nb rc ac Nc rt at_ N : Nat} {B C : List Nat} (bb : ∀ x ∈ B, x < 256) (bc : ∀ x ∈ C, x < 256) (hr1 : rb ≠ rt) (ha1 : ab ≠ at_) (hr2 : rc ≠ rt) (ha2 : ac ≠ at_) : ∀ n p w S ts w4 w6 w7, RowIs S rb ab Nb B → RowIs S rc ac Nc C → RowIs S rt at_ N ts → C.length < p + n → p ≤ C.length → w ≤ p → ts.length + 2 * (C.length - p) + w + 1 ≤ N → runv 82 25 [some (.ref rb), some (.ref rc), some (.ref rt), some (.int (nI w)), w4, some (.int (nI p)), w6, w7] [] (hp S) = some (none, hp (rowSet S rt at_ (ts ++ diffF B C n p w))) := by
  intro n
  induction n with
  | zero => intro p w S ts w4 w6 w7 hB hC hT hp0 hpl hw hN; omega
  | succ n ih =>
    intro p w S ts w4 w6 w7 hB hC hT hp0 hpl hw hN
    have b5 := hB.2.2.2.2.1
    have b6 := hB.2.2.2.2.2
    have c5 := hC.2.2.2.2.1
    have c6 := hC.2.2.2.2.2
    have tb := fun S => rowt (S := S) hB.1
    have tc := fun S => rowt (S := S) hC.1
    have tt := fun S => rowt (S := S) hT.1
    rw [s82_25]
    simp only [s82_0, s82_1, s82_4, s82_5, s82_6, s82_9, s82_12, s82_13, s82_14, s82_17, s82_20, s82_21, s82_22, s82_23, s82_27, s82_28, s82_31, s82_34, s82_35, s82_36, s82_38, s82_41, s82_43, s82_44, s82_46, s82_47, s82_49, s82_52, s82_54, s82_56, s82_57, s82_60, s82_61, s82_63, s82_64, s82_65, s82_66, s82_67, s82_70, s82_71, s82_72, s82_73, s82_76, s82_78, s82_79, s82_82, s82_83, s82_85, s82_88, s82_90, s82_92, s82_95, s82_98, s82_99, s82_101, s82_103, s82_105, s82_106, s82_108, s82_111, s82_112, s82_113, s82_116, s82_117, s82_118, s82_119, s82_120, s82_123, List.length_cons, List.length_nil, Nat.reduceAdd, Nat.reduceLeDiff, Nat.zero_le, tc, c_used hC, vbind_some, vpush_some]
    rw [diffF]
    by_cases h1 : p < C.length
    · rw [if_neg (nI_ge h1 (by omega)), if_pos h1]
      have hlp : lpl B C p ≤ B.length := lpF_le B C p B.length 0 0 0 (by omega) (by omega)
      have hcm := commN_le (C.drop p) (B.drop (lpl B C p))
      simp only [List.length_drop] at hcm
      have e0 := c_longest hB hC bb bc (p := p) (by omega)
      have e1 := c_commonFrom hC hB bc bb (p := p) (q := lpl B C p) (by omega) hlp
      generalize hm : commN (C.drop p) (B.drop (lpl B C p)) = m at e1 hcm ⊢
      generalize lpl B C p = pl at e0 e1 hcm hlp hm ⊢
      simp only [s82_0, s82_1, s82_4, s82_5, s82_6, s82_9, s82_12, s82_13, s82_14, s82_17, s82_20, s82_21, s82_22, s82_23, s82_27, s82_28, s82_31, s82_34, s82_35, s82_36, s82_38, s82_41, s82_43, s82_44, s82_46, s82_47, s82_49, s82_52, s82_54, s82_56, s82_57, s82_60, s82_61, s82_63, s82_64, s82_65, s82_66, s82_67, s82_70, s82_71, s82_72, s82_73, s82_76, s82_78, s82_79, s82_82, s82_83, s82_85, s82_88, s82_90, s82_92, s82_95, s82_98, s82_99, s82_101, s82_103, s82_105, s82_106, s82_108, s82_111, s82_112, s82_113, s82_116, s82_117, s82_118, s82_119, s82_120, s82_123, List.length_cons, List.length_nil, Nat.reduceAdd, Nat.reduceLeDiff, Nat.zero_le, tc, e0, e1, vbind_some, vpush_some]
      by_cases h3 : 3 ≤ m
      · rw [if_neg (show ¬ nI m < 3 from nI_nlt (b := 3) h3 (by omega)), if_pos h3]
        have hpl2 : ((C.drop (p - w)).take w).length = w := by simp; omega
        have hput : (putL ((C.drop (p - w)).take w)).length ≤ w + 1 := by rw [putL_len hpl2]; split <;> omega
        have e2 := c_writePut hC hT hr2 ha2 (s := p - w) (n := w) (by omega) (by omega)
        have hT1 := hT.set (cs := ts ++ putL ((C.drop (p - w)).take w)) (by simp; omega)
        have e3 := c_add hT1 (x := 128 + m) (by simp; omega)
        have hT2 := hT1.set (cs := ts ++ putL ((C.drop (p - w)).take w) ++ [128 + m]) (by simp; omega)
        have e4 := c_add hT2 (x := pl) (by simp; omega)
        have hT3 := hT2.set (cs := ts ++ putL ((C.drop (p - w)).take w) ++ [128 + m] ++ [pl]) (by simp; omega)
        have hB3 := ((hB.other (ds := ts ++ putL ((C.drop (p - w)).take w)) hr1 ha1).other (ds := ts ++ putL ((C.drop (p - w)).take w) ++ [128 + m]) hr1 ha1).other (ds := ts ++ putL ((C.drop (p - w)).take w) ++ [128 + m] ++ [pl]) hr1 ha1
        have hC3 := ((hC.other (ds := ts ++ putL ((C.drop (p - w)).take w)) hr2 ha2).other (ds := ts ++ putL ((C.drop (p - w)).take w) ++ [128 + m]) hr2 ha2).other (ds := ts ++ putL ((C.drop (p - w)).take w) ++ [128 + m] ++ [pl]) hr2 ha2
        simp only [s82_0, s82_1, s82_4, s82_5, s82_6, s82_9, s82_12, s82_13, s82_14, s82_17, s82_20, s82_21, s82_22, s82_23, s82_27, s82_28, s82_31, s82_34, s82_35, s82_36, s82_38, s82_41, s82_43, s82_44, s82_46, s82_47, s82_49, s82_52, s82_54, s82_56, s82_57, s82_60, s82_61, s82_63, s82_64, s82_65, s82_66, s82_67, s82_70, s82_71, s82_72, s82_73, s82_76, s82_78, s82_79, s82_82, s82_83, s82_85, s82_88, s82_90, s82_92, s82_95, s82_98, s82_99, s82_101, s82_103, s82_105, s82_106, s82_108, s82_111, s82_112, s82_113, s82_116, s82_117, s82_118, s82_119, s82_120, s82_123, List.length_cons, List.length_nil, Nat.reduceAdd, Nat.reduceLeDiff, Nat.zero_le, tt, pk_sub hw, e2, show (128 : Int32) = nI 128 from rfl, nI_add, e3, e4, vbind_some, vpush_some, vpush_none]
        rw [show (0 : Int32) = nI 0 from rfl, ih _ _ _ _ _ _ _ hB3 hC3 hT3 (by omega) (by omega) (by omega) (by simp; omega)]
        rw [rowSet_grow (by simp), rowSet_grow (by simp), rowSet_grow (by simp)]
        simp only [List.append_assoc]
        rfl
      · rw [if_pos (show nI m < 3 from nI_lt (b := 3) (by omega) (by omega)), if_neg h3]
        simp only [s82_0, s82_1, s82_4, s82_5, s82_6, s82_9, s82_12, s82_13, s82_14, s82_17, s82_20, s82_21, s82_22, s82_23, s82_27, s82_28, s82_31, s82_34, s82_35, s82_36, s82_38, s82_41, s82_43, s82_44, s82_46, s82_47, s82_49, s82_52, s82_54, s82_56, s82_57, s82_60, s82_61, s82_63, s82_64, s82_65, s82_66, s82_67, s82_70, s82_71, s82_72, s82_73, s82_76, s82_78, s82_79, s82_82, s82_83, s82_85, s82_88, s82_90, s82_92, s82_95, s82_98, s82_99, s82_101, s82_103, s82_105, s82_106, s82_108, s82_111, s82_112, s82_113, s82_116, s82_117, s82_118, s82_119, s82_120, s82_123, nI_1]
        exact ih _ _ _ _ _ _ _ hB hC hT (by omega) (by omega) (by omega) (by omega)
    · rw [if_pos (nI_le (by omega) (by omega)), if_neg h1]
      have e2 := c_writePut hC hT hr2 ha2 (s := C.length - w) (n := w) (by omega) (by omega)
      simp only [s82_0, s82_1, s82_4, s82_5, s82_6, s82_9, s82_12, s82_13, s82_14, s82_17, s82_20, s82_21, s82_22, s82_23, s82_27, s82_28, s82_31, s82_34, s82_35, s82_36, s82_38, s82_41, s82_43, s82_44, s82_46, s82_47, s82_49, s82_52, s82_54, s82_56, s82_57, s82_60, s82_61, s82_63, s82_64, s82_65, s82_66, s82_67, s82_70, s82_71, s82_72, s82_73, s82_76, s82_78, s82_79, s82_82, s82_83, s82_85, s82_88, s82_90, s82_92, s82_95, s82_98, s82_99, s82_101, s82_103, s82_105, s82_106, s82_108, s82_111, s82_112, s82_113, s82_116, s82_117, s82_118, s82_119, s82_120, s82_123, List.length_cons, List.length_nil, Nat.reduceAdd, Nat.reduceLeDiff, Nat.zero_le, tc, c_used hC, pk_sub (show w ≤ C.length by omega), e2, vbind_some, vpush_some, vpush_none]
theorem c_diff {S : vSt} {rb ab Nb rc ac Nc rt at_ N : Nat} {B C : List Nat} (hB : RowIs S rb ab Nb B) (hC : RowIs S rc ac Nc C) (hrt : isRow rt at_) (hl : (S.2 at_).length = N) (hN1 : N ≤ 10000) (bb : ∀ x ∈ B, x < 256) (bc : ∀ x ∈ C, x < 256) (hr1 : rb ≠ rt) (ha1 : ab ≠ at_) (hr2 : rc ≠ rt) (ha2 : ac ≠ at_) (hN : 3 + 2 * C.length ≤ N) : callv 82 [.ref rb, .ref rc, .ref rt] (hp S) = some (none, hp (rowSet S rt at_ (diffL B C))) := by
  have tb := fun S => rowt (S := S) hB.1
  have tc := fun S => rowt (S := S) hC.1
  have tt := fun S => rowt (S := S) hrt
  have hT0 := row_nil (S := S) hrt hl hN1
  have hB0 : RowIs (fu S rt 1 0) rb ab Nb B := hB.fu hr1
  have hC0 : RowIs (fu S rt 1 0) rc ac Nc C := hC.fu hr2
  have e1 := c_add hT0 (x := B.length) (by simp; omega)
  have hT1 := hT0.set (cs := [] ++ [B.length]) (by simp; omega)
  have hB1 : RowIs (rowSet (fu S rt 1 0) rt at_ ([] ++ [B.length])) rb ab Nb B := hB0.other hr1 ha1
  have hC1 : RowIs (rowSet (fu S rt 1 0) rt at_ ([] ++ [B.length])) rc ac Nc C := hC0.other hr2 ha2
  have e2 := c_add hT1 (x := C.length) (by simp; omega)
  have hT2 := hT1.set (cs := [] ++ [B.length] ++ [C.length]) (by simp; omega)
  have hB2 : RowIs (rowSet (rowSet (fu S rt 1 0) rt at_ ([] ++ [B.length])) rt at_ ([] ++ [B.length] ++ [C.length])) rb ab Nb B := hB1.other hr1 ha1
  have hC2 : RowIs (rowSet (rowSet (fu S rt 1 0) rt at_ ([] ++ [B.length])) rt at_ ([] ++ [B.length] ++ [C.length])) rc ac Nc C := hC1.other hr2 ha2
  show runv 82 0 [some (.ref rb), some (.ref rc), some (.ref rt), none, none, none, none, none] [] (hp S) = _
  simp only [s82_0, s82_1, s82_4, s82_5, s82_6, s82_9, s82_12, s82_13, s82_14, s82_17, s82_20, s82_21, s82_22, s82_23, List.length_cons, List.length_nil, Nat.reduceAdd, Nat.reduceLeDiff, Nat.zero_le, tb, tc, tt, c_clear0 hrt, c_used hB0, c_used hC1, e1, e2, vbind_some, vpush_some, vpush_none]
  refine (c_diff_loop bb bc hr1 ha1 hr2 ha2 (C.length + 1) 0 0 _ _ none none none hB2 hC2 hT2 (by omega) (by omega) (by omega) (by simp; omega)).trans ?_
  have e3 : ∀ cs, rowSet (fu S rt 1 0) rt at_ cs = rowSet S rt at_ cs := by
    intro cs
    refine Prod.ext ?_ rfl
    funext b j
    simp only [rowSet, au_1, fu]
    split <;> rfl
  rw [rowSet_grow (by simp), rowSet_grow (by simp), e3]
  rfl
/-! differences worked out -/
def apF (B D : List Nat) (N : Nat) : Nat → Nat → List Nat → Option (List Nat)
  | 0, _, ts => some ts
  | n + 1, p, ts => if p < D.length then
      if D.getD p 0 % 128 = 0 then none
      else if D.getD p 0 < 128 then
        if p + 1 + D.getD p 0 ≤ D.length ∧ ts.length + D.getD p 0 ≤ N then apF B D N n (p + 1 + D.getD p 0) (ts ++ (D.drop (p + 1)).take (D.getD p 0)) else none
      else if p + 1 < D.length ∧ D.getD (p + 1) 0 + (D.getD p 0 - 128) ≤ B.length ∧ ts.length + (D.getD p 0 - 128) ≤ N then apF B D N n (p + 2) (ts ++ (B.drop (D.getD (p + 1) 0)).take (D.getD p 0 - 128)) else none
    else some ts
def apL (B D : List Nat) (N : Nat) : Option (List Nat) := if D.length < 2 ∨ D.getD 0 0 ≠ B.length then none else match apF B D N (D.length + 1) 2 [] with
  | none => none
  | some ts => if ts.length = D.getD 1 0 then some ts else none
theorem rget_out {bs : List Nat} {p : Nat} (h : bs.length ≤ p) (hl : p < 2 ^ 31) : rget bs (nI p) = -1 := by
  unfold rget
  rw [if_neg (nI_pos hl), if_neg (nI_nlt h hl)]
theorem c_applyStep {S : vSt} {rb ab Nb rd ad Nd rt at_ N p : Nat} {B D ts : List Nat} (hB : RowIs S rb ab Nb B) (hD : RowIs S rd ad Nd D) (hT : RowIs S rt at_ N ts) (bd : ∀ x ∈ D, x < 256) (hp0 : p < D.length) : callv 86 [.ref rb, .ref rd, .int (nI p), .ref rt] (hp S) =
    if D.getD p 0 % 128 = 0 then some (some (.int 0), hp S)
    else if D.getD p 0 < 128 then
      (if p + 1 + D.getD p 0 ≤ D.length ∧ ts.length + D.getD p 0 ≤ N then some (some (.int 1), hp (rowSet S rt at_ (ts ++ (D.drop (p + 1)).take (D.getD p 0)))) else some (some (.int 0), hp S))
    else if p + 1 < D.length ∧ D.getD (p + 1) 0 + (D.getD p 0 - 128) ≤ B.length ∧ ts.length + (D.getD p 0 - 128) ≤ N then some (some (.int 1), hp (rowSet S rt at_ (ts ++ (B.drop (D.getD (p + 1) 0)).take (D.getD p 0 - 128)))) else some (some (.int 0), hp S) := by
  have b5 := hB.2.2.2.2.1
  have b6 := hB.2.2.2.2.2
  have d5 := hD.2.2.2.2.1
  have d6 := hD.2.2.2.2.2
  have t5 := hT.2.2.2.2.1
  have t6 := hT.2.2.2.2.2
  have td := rowt (S := S) hD.1
  have tt := rowt (S := S) hT.1
  have hc := getD_lt bd p
  have hc1 := getD_lt bd (p + 1)
  have e0 : ¬ (128 : Int32) = 0 := by decide
  have er : nI (D.getD p 0) - nI (D.getD p 0) / 128 * 128 = nI (D.getD p 0 % 128) := pk_rem (d := 128) (by omega) (by omega) (by omega)
  have m0 : (nI (D.getD p 0 % 128) = 0) = (D.getD p 0 % 128 = 0) := nI_inj (b := 0) (by omega) (by omega)
  show runv 86 0 [some (.ref rb), some (.ref rd), some (.int (nI p)), some (.ref rt), none] [] (hp S) = _
  simp only [s86_0, s86_1, s86_2, s86_5, s86_7, s86_9, s86_12, s86_13, s86_16, s86_17, s86_18, s86_20, s86_23, s86_26, s86_27, s86_28, s86_29, s86_30, s86_31, s86_33, s86_36, s86_37, s86_38, s86_39, s86_40, s86_41, s86_42, s86_43, s86_46, s86_48, s86_51, s86_52, s86_55, List.length_cons, List.length_nil, Nat.reduceAdd, Nat.reduceLeDiff, Nat.zero_le, td, tt, c_get hD, rget_in hp0 (show D.length ≤ 10000 by omega), vbind_some, vpush_some, e0, not_false_eq_true, er, m0, vb0, nI_1]
  by_cases h1 : D.getD p 0 % 128 = 0
  · rw [if_pos h1, if_pos h1]
  · rw [if_neg h1, if_neg h1]
    by_cases h2 : D.getD p 0 < 128
    · rw [if_neg (show ¬ (128 : Int32) ≤ nI (D.getD p 0) from nI_ge (b := 128) h2 (by omega)), if_pos h2]
      by_cases h3 : p + 1 + D.getD p 0 ≤ D.length ∧ ts.length + D.getD p 0 ≤ N
      · rw [if_pos h3, c_addPart hT hD h3.1 h3.2]
        simp only [s86_0, s86_1, s86_2, s86_5, s86_7, s86_9, s86_12, s86_13, s86_16, s86_17, s86_18, s86_20, s86_23, s86_26, s86_27, s86_28, s86_29, s86_30, s86_31, s86_33, s86_36, s86_37, s86_38, s86_39, s86_40, s86_41, s86_42, s86_43, s86_46, s86_48, s86_51, s86_52, s86_55, vbind_some, vpush_some, vb1]
      · rw [if_neg h3, c_addPart0 hT hD (by
          by_cases q : D.length < D.getD p 0
          · right; right; left
            have : nI D.length - nI (D.getD p 0) < 0 := pk_sneg (by omega) q
            exact Int32.lt_of_lt_of_le this (nI_pos' (by omega))
          · by_cases q2 : p + 1 + D.getD p 0 ≤ D.length
            · right; right; right
              exact nI_lt (by omega) (by omega)
            · right; right; left
              rw [pk_sub (by omega)]
              exact nI_lt (by omega) (by omega))]
        simp only [s86_0, s86_1, s86_2, s86_5, s86_7, s86_9, s86_12, s86_13, s86_16, s86_17, s86_18, s86_20, s86_23, s86_26, s86_27, s86_28, s86_29, s86_30, s86_31, s86_33, s86_36, s86_37, s86_38, s86_39, s86_40, s86_41, s86_42, s86_43, s86_46, s86_48, s86_51, s86_52, s86_55, vbind_some, vpush_some, vb0]
    · rw [if_pos (show (128 : Int32) ≤ nI (D.getD p 0) from nI_le (a := 128) (by omega) (by omega)), if_neg h2]
      rw [show (128 : Int32) = nI 128 from rfl, pk_sub (show 128 ≤ D.getD p 0 by omega)]
      by_cases h4 : p + 1 < D.length
      · rw [rget_in h4 (by omega)]
        by_cases h3 : p + 1 < D.length ∧ D.getD (p + 1) 0 + (D.getD p 0 - 128) ≤ B.length ∧ ts.length + (D.getD p 0 - 128) ≤ N
        · rw [if_pos h3, c_addPart hT hB h3.2.1 h3.2.2]
          simp only [s86_0, s86_1, s86_2, s86_5, s86_7, s86_9, s86_12, s86_13, s86_16, s86_17, s86_18, s86_20, s86_23, s86_26, s86_27, s86_28, s86_29, s86_30, s86_31, s86_33, s86_36, s86_37, s86_38, s86_39, s86_40, s86_41, s86_42, s86_43, s86_46, s86_48, s86_51, s86_52, s86_55, vbind_some, vpush_some, vb1]
        · rw [if_neg h3, c_addPart0 hT hB (by
            by_cases q : B.length < D.getD p 0 - 128
            · right; right; left
              have : nI B.length - nI (D.getD p 0 - 128) < 0 := pk_sneg (by omega) q
              exact Int32.lt_of_lt_of_le this (nI_pos' (by omega))
            · by_cases q2 : D.getD (p + 1) 0 + (D.getD p 0 - 128) ≤ B.length
              · right; right; right
                exact nI_lt (by omega) (by omega)
              · right; right; left
                rw [pk_sub (by omega)]
                exact nI_lt (by omega) (by omega))]
          simp only [s86_0, s86_1, s86_2, s86_5, s86_7, s86_9, s86_12, s86_13, s86_16, s86_17, s86_18, s86_20, s86_23, s86_26, s86_27, s86_28, s86_29, s86_30, s86_31, s86_33, s86_36, s86_37, s86_38, s86_39, s86_40, s86_41, s86_42, s86_43, s86_46, s86_48, s86_51, s86_52, s86_55, vbind_some, vpush_some, vb0]
      · rw [rget_out (by omega) (by omega), if_neg (fun q => h4 q.1), c_addPart0 hT hB (Or.inl (by decide))]
        simp only [s86_0, s86_1, s86_2, s86_5, s86_7, s86_9, s86_12, s86_13, s86_16, s86_17, s86_18, s86_20, s86_23, s86_26, s86_27, s86_28, s86_29, s86_30, s86_31, s86_33, s86_36, s86_37, s86_38, s86_39, s86_40, s86_41, s86_42, s86_43, s86_46, s86_48, s86_51, s86_52, s86_55, vbind_some, vpush_some, vb0]
theorem c_apply_loop {rb ab Nb rd ad Nd rt at_ N : Nat} {B D : List Nat} (bd : ∀ x ∈ D, x < 256) (hr1 : rb ≠ rt) (ha1 : ab ≠ at_) (hr2 : rd ≠ rt) (ha2 : ad ≠ at_) : ∀ n p S ts w3 w5, RowIs S rb ab Nb B → RowIs S rd ad Nd D → RowIs S rt at_ N ts → D.length < p + n → p ≤ D.length → 2 ≤ p → ∃ us, runv 85 29 [some (.ref rb), some (.ref rd), some (.ref rt), w3, some (.int (nI p)), w5] [] (hp S) = some (some (.int (bI (match apF B D N n p ts with
    | none => false
    | some z => decide (z.length = D.getD 1 0)))), hp (rowSet S rt at_ us)) ∧ ts.length ≤ us.length ∧ us.length ≤ N ∧ ∀ z, apF B D N n p ts = some z → us = z := by
  intro n
  induction n with
  | zero => intro p S ts w3 w5 hB hD hT hp0 hpl hp2; omega
  | succ n ih =>
    intro p S ts w3 w5 hB hD hT hp0 hpl hp2
    have b5 := hB.2.2.2.2.1
    have b6 := hB.2.2.2.2.2
    have d5 := hD.2.2.2.2.1
    have d6 := hD.2.2.2.2.2
    have t5 := hT.2.2.2.2.1
    have t6 := hT.2.2.2.2.2
    have td := rowt (S := S) hD.1
    have tt := rowt (S := S) hT.1
    have hc := getD_lt bd p
    have hc1 := getD_lt bd 1
    rw [s85_29]
    simp only [s85_0, s85_1, s85_4, s85_5, s85_8, s85_9, s85_12, s85_13, s85_14, s85_17, s85_18, s85_21, s85_24, s85_25, s85_26, s85_27, s85_31, s85_32, s85_35, s85_38, s85_39, s85_41, s85_44, s85_46, s85_48, s85_51, s85_54, s85_55, s85_57, s85_58, s85_61, s85_62, s85_63, s85_64, s85_65, s85_67, s85_68, s85_71, s85_74, s85_75, s85_76, s85_78, s85_79, s85_80, s85_82, s85_85, s85_86, s85_89, s85_90, s85_91, s85_94, s85_97, s85_98, s85_101, s85_102, List.length_cons, List.length_nil, Nat.reduceAdd, Nat.reduceLeDiff, Nat.zero_le, td, tt, c_used hD, c_used hT, c_get hD, vbind_some, vpush_some, vb0, vb1]
    by_cases h1 : p < D.length
    · rw [if_neg (nI_ge h1 (by omega)), rget_in h1 (by omega), c_applyStep hB hD hT bd h1]
      have estep : ∀ w, (if (128 : Int32) ≤ nI (D.getD p 0) then runv 85 61 w [] (hp S) else runv 85 54 w [] (hp S)) = (if (128 : Int32) ≤ nI (D.getD p 0) then runv 85 61 w [] (hp S) else runv 85 54 w [] (hp S)) := fun _ => rfl
      unfold apF
      rw [if_pos h1]
      by_cases h2 : D.getD p 0 % 128 = 0
      · rw [if_pos h2, if_pos h2]
        refine ⟨ts, ?_, Nat.le_refl _, t5, fun z hz => by cases hz⟩
        simp only [s85_0, s85_1, s85_4, s85_5, s85_8, s85_9, s85_12, s85_13, s85_14, s85_17, s85_18, s85_21, s85_24, s85_25, s85_26, s85_27, s85_31, s85_32, s85_35, s85_38, s85_39, s85_41, s85_44, s85_46, s85_48, s85_51, s85_54, s85_55, s85_57, s85_58, s85_61, s85_62, s85_63, s85_64, s85_65, s85_67, s85_68, s85_71, s85_74, s85_75, s85_76, s85_78, s85_79, s85_80, s85_82, s85_85, s85_86, s85_89, s85_90, s85_91, s85_94, s85_97, s85_98, s85_101, s85_102, vbind_some, vpush_some, vb0, rowSet_self hT]
        split <;> rfl
      · rw [if_neg h2, if_neg h2]
        by_cases h3 : D.getD p 0 < 128
        · rw [if_pos h3, if_pos h3, if_neg (show ¬ (128 : Int32) ≤ nI (D.getD p 0) from nI_ge (b := 128) h3 (by omega))]
          by_cases h4 : p + 1 + D.getD p 0 ≤ D.length ∧ ts.length + D.getD p 0 ≤ N
          · rw [if_pos h4, if_pos h4]
            have hT1 := hT.set (cs := ts ++ (D.drop (p + 1)).take (D.getD p 0)) (by rw [List.length_append, List.length_take]; omega)
            have hB1 : RowIs (rowSet S rt at_ (ts ++ (D.drop (p + 1)).take (D.getD p 0))) rb ab Nb B := hB.other hr1 ha1
            have hD1 : RowIs (rowSet S rt at_ (ts ++ (D.drop (p + 1)).take (D.getD p 0))) rd ad Nd D := hD.other hr2 ha2
            obtain ⟨us, g1, g2, g3, g4⟩ := ih (p + 1 + D.getD p 0) _ _ (some (.int (nI (1 + D.getD p 0)))) (some (.int (nI (D.getD p 0)))) hB1 hD1 hT1 (by omega) (by omega) (by omega)
            refine ⟨us, ?_, ?_, g3, g4⟩
            · simp only [s85_0, s85_1, s85_4, s85_5, s85_8, s85_9, s85_12, s85_13, s85_14, s85_17, s85_18, s85_21, s85_24, s85_25, s85_26, s85_27, s85_31, s85_32, s85_35, s85_38, s85_39, s85_41, s85_44, s85_46, s85_48, s85_51, s85_54, s85_55, s85_57, s85_58, s85_61, s85_62, s85_63, s85_64, s85_65, s85_67, s85_68, s85_71, s85_74, s85_75, s85_76, s85_78, s85_79, s85_80, s85_82, s85_85, s85_86, s85_89, s85_90, s85_91, s85_94, s85_97, s85_98, s85_101, s85_102, vbind_some, vpush_some, show (1 : Int32) = nI 1 from rfl, nI_add]
              rw [if_neg (show ¬ nI 1 = 0 by decide), show p + (1 + D.getD p 0) = p + 1 + D.getD p 0 by omega, g1, rowSet_grow g2]
            · rw [List.length_append] at g2; omega
          · rw [if_neg h4, if_neg h4]
            refine ⟨ts, ?_, Nat.le_refl _, t5, fun z hz => by cases hz⟩
            simp only [s85_0, s85_1, s85_4, s85_5, s85_8, s85_9, s85_12, s85_13, s85_14, s85_17, s85_18, s85_21, s85_24, s85_25, s85_26, s85_27, s85_31, s85_32, s85_35, s85_38, s85_39, s85_41, s85_44, s85_46, s85_48, s85_51, s85_54, s85_55, s85_57, s85_58, s85_61, s85_62, s85_63, s85_64, s85_65, s85_67, s85_68, s85_71, s85_74, s85_75, s85_76, s85_78, s85_79, s85_80, s85_82, s85_85, s85_86, s85_89, s85_90, s85_91, s85_94, s85_97, s85_98, s85_101, s85_102, vbind_some, vpush_some, vb0, rowSet_self hT]
            rfl
        · rw [if_neg h3, if_neg h3, if_pos (show (128 : Int32) ≤ nI (D.getD p 0) from nI_le (a := 128) (by omega) (by omega))]
          by_cases h4 : p + 1 < D.length ∧ D.getD (p + 1) 0 + (D.getD p 0 - 128) ≤ B.length ∧ ts.length + (D.getD p 0 - 128) ≤ N
          · rw [if_pos h4, if_pos h4]
            have hT1 := hT.set (cs := ts ++ (B.drop (D.getD (p + 1) 0)).take (D.getD p 0 - 128)) (by rw [List.length_append, List.length_take]; omega)
            have hB1 : RowIs (rowSet S rt at_ (ts ++ (B.drop (D.getD (p + 1) 0)).take (D.getD p 0 - 128))) rb ab Nb B := hB.other hr1 ha1
            have hD1 : RowIs (rowSet S rt at_ (ts ++ (B.drop (D.getD (p + 1) 0)).take (D.getD p 0 - 128))) rd ad Nd D := hD.other hr2 ha2
            obtain ⟨us, g1, g2, g3, g4⟩ := ih (p + 2) _ _ (some (.int 2)) (some (.int (nI (D.getD p 0)))) hB1 hD1 hT1 (by omega) (by omega) (by omega)
            refine ⟨us, ?_, ?_, g3, g4⟩
            · simp only [s85_0, s85_1, s85_4, s85_5, s85_8, s85_9, s85_12, s85_13, s85_14, s85_17, s85_18, s85_21, s85_24, s85_25, s85_26, s85_27, s85_31, s85_32, s85_35, s85_38, s85_39, s85_41, s85_44, s85_46, s85_48, s85_51, s85_54, s85_55, s85_57, s85_58, s85_61, s85_62, s85_63, s85_64, s85_65, s85_67, s85_68, s85_71, s85_74, s85_75, s85_76, s85_78, s85_79, s85_80, s85_82, s85_85, s85_86, s85_89, s85_90, s85_91, s85_94, s85_97, s85_98, s85_101, s85_102, vbind_some, vpush_some]
              rw [if_neg (show ¬ (1 : Int32) = 0 by decide), show nI p + 2 = nI (p + 2) from nI_add p 2, g1, rowSet_grow g2]
            · rw [List.length_append] at g2; omega
          · rw [if_neg h4, if_neg h4]
            refine ⟨ts, ?_, Nat.le_refl _, t5, fun z hz => by cases hz⟩
            simp only [s85_0, s85_1, s85_4, s85_5, s85_8, s85_9, s85_12, s85_13, s85_14, s85_17, s85_18, s85_21, s85_24, s85_25, s85_26, s85_27, s85_31, s85_32, s85_35, s85_38, s85_39, s85_41, s85_44, s85_46, s85_48, s85_51, s85_54, s85_55, s85_57, s85_58, s85_61, s85_62, s85_63, s85_64, s85_65, s85_67, s85_68, s85_71, s85_74, s85_75, s85_76, s85_78, s85_79, s85_80, s85_82, s85_85, s85_86, s85_89, s85_90, s85_91, s85_94, s85_97, s85_98, s85_101, s85_102, vbind_some, vpush_some, vb0, rowSet_self hT]
            rfl
    · rw [if_pos (nI_le (by omega) (by omega)), show (1 : Int32) = nI 1 from rfl, rget_in (show 1 < D.length by omega) (by omega), apF, if_neg h1]
      refine ⟨ts, ?_, Nat.le_refl _, t5, fun z hz => by cases hz; rfl⟩
      simp only [nI_inj (show ts.length < 2 ^ 31 by omega) (show D.getD 1 0 < 2 ^ 31 by omega), rowSet_self hT]
      by_cases hq : ts.length = D.getD 1 0
      · rw [if_pos hq, decide_eq_true hq]; rfl
      · rw [if_neg hq, decide_eq_false hq]; rfl
theorem rowSet_fu0 {S : vSt} {r a : Nat} {x : Int32} {cs : List Nat} : rowSet (fu S r 1 x) r a cs = rowSet S r a cs := by
  refine Prod.ext ?_ rfl
  funext b j
  simp only [rowSet, au_1, fu]
  split <;> rfl
theorem c_apply {S : vSt} {rb ab Nb rd ad Nd rt at_ N : Nat} {B D : List Nat} (hB : RowIs S rb ab Nb B) (hD : RowIs S rd ad Nd D) (hrt : isRow rt at_) (hl : (S.2 at_).length = N) (hN1 : N ≤ 10000) (bd : ∀ x ∈ D, x < 256) (hr1 : rb ≠ rt) (ha1 : ab ≠ at_) (hr2 : rd ≠ rt) (ha2 : ad ≠ at_) : ∃ us, callv 85 [.ref rb, .ref rd, .ref rt] (hp S) = some (some (.int (bI (apL B D N).isSome)), hp (rowSet S rt at_ us)) ∧ us.length ≤ N ∧ ∀ z, apL B D N = some z → us = z := by
  have b5 := hB.2.2.2.2.1
  have b6 := hB.2.2.2.2.2
  have d5 := hD.2.2.2.2.1
  have d6 := hD.2.2.2.2.2
  have tb := fun S => rowt (S := S) hB.1
  have td := fun S => rowt (S := S) hD.1
  have tt := fun S => rowt (S := S) hrt
  have hT0 := row_nil (S := S) hrt hl hN1
  have hB0 : RowIs (fu S rt 1 0) rb ab Nb B := hB.fu hr1
  have hD0 : RowIs (fu S rt 1 0) rd ad Nd D := hD.fu hr2
  have hc0 := getD_lt bd 0
  have start : callv 85 [.ref rb, .ref rd, .ref rt] (hp S) = if D.length < 2 then some (some (.int 0), hp (fu S rt 1 0)) else if D.getD 0 0 = B.length then runv 85 29 [some (.ref rb), some (.ref rd), some (.ref rt), none, some (.int (nI 2)), none] [] (hp (fu S rt 1 0)) else some (some (.int 0), hp (fu S rt 1 0)) := by
    show runv 85 0 [some (.ref rb), some (.ref rd), some (.ref rt), none, none, none] [] (hp S) = _
    simp only [s85_0, s85_1, s85_4, s85_5, s85_8, s85_9, s85_12, s85_13, s85_14, s85_17, s85_18, s85_21, s85_24, s85_25, s85_26, s85_27, List.length_cons, List.length_nil, Nat.reduceAdd, Nat.reduceLeDiff, Nat.zero_le, tb, td, tt, c_clear0 hrt, c_used hD0, c_used hB0, c_get hD0, vbind_some, vpush_some, vpush_none, vb0]
    by_cases h1 : D.length < 2
    · rw [if_pos (show nI D.length < 2 from nI_lt (b := 2) h1 (by omega)), if_pos h1]
    · rw [if_neg (show ¬ nI D.length < 2 from nI_nlt (b := 2) (by omega) (by omega)), if_neg h1, show rget D 0 = nI (D.getD 0 0) from rget_in (p := 0) (by omega) (by omega)]
      simp only [nI_inj (show D.getD 0 0 < 2 ^ 31 by omega) (show B.length < 2 ^ 31 by omega)]
      rfl
  rw [start]
  unfold apL
  by_cases h1 : D.length < 2
  · rw [if_pos h1, if_pos (Or.inl h1)]
    exact ⟨[], by rw [← rowSet_fu0 (x := 0), rowSet_self hT0]; rfl, Nat.zero_le _, fun z hz => by cases hz⟩
  · rw [if_neg h1]
    by_cases h2 : D.getD 0 0 = B.length
    · rw [if_pos h2, if_neg (fun q => q.elim h1 (fun z => z h2))]
      obtain ⟨us, g1, g2, g3, g4⟩ := c_apply_loop bd hr1 ha1 hr2 ha2 (D.length + 1) 2 (fu S rt 1 0) [] none none hB0 hD0 hT0 (by omega) (by omega) (by omega)
      refine ⟨us, ?_, g3, ?_⟩
      · rw [g1, rowSet_fu0]
        cases apF B D N (D.length + 1) 2 [] with
        | none => rfl
        | some z =>
          by_cases hz : z.length = D.getD 1 0
          · simp only [hz, decide_true, if_true, Option.isSome_some]
          · simp only [hz, decide_false, if_false, Option.isSome_none]
      · intro z hz
        cases ha : apF B D N (D.length + 1) 2 [] with
        | none => rw [ha] at hz; cases hz
        | some y =>
          rw [ha] at hz
          simp only at hz
          split at hz
          · cases hz; exact g4 _ ha
          · cases hz
    · rw [if_neg h2, if_pos (Or.inr h2)]
      exact ⟨[], by rw [← rowSet_fu0 (x := 0), rowSet_self hT0]; rfl, Nat.zero_le _, fun z hz => by cases hz⟩
