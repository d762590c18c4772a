/-! packing -/
theorem rowSet_self {S : vSt} {r a N : Nat} {bs : List Nat} (h : RowIs S r a N bs) : rowSet S r a bs = S := by
  obtain ⟨h1, h2, h3, h4, h5, h6⟩ := h
  rw [rowSet, ← h4, List.take_append_drop]
  rw [au_self (by rw [fu_2])]
  refine Prod.ext ?_ rfl
  funext b j
  simp only [fu]
  split
  · rename_i hb; rw [hb.1, hb.2, h2]
  · rfl
def plE (bs : List Nat) (p : Nat) : Nat → Nat → Nat
  | 0, e => e
  | n + 1, e => if e < bs.length ∧ e - p < 128 ∧ sameN bs e < 3 then plE bs p n (e + 1) else e
theorem plE_in (bs : List Nat) (p : Nat) : ∀ n e, e ≤ bs.length → e ≤ plE bs p n e ∧ plE bs p n e ≤ bs.length := by
  intro n
  induction n with
  | zero => intro e he; exact ⟨Nat.le_refl _, he⟩
  | succ n ih =>
    intro e he
    unfold plE
    split
    · rename_i hc
      have := ih (e + 1) (by omega)
      omega
    · exact ⟨Nat.le_refl _, he⟩
theorem plE_128 (bs : List Nat) (p : Nat) : ∀ n e, e ≤ p + 128 → plE bs p n e ≤ p + 128 := by
  intro n
  induction n with
  | zero => intro e he; exact he
  | succ n ih =>
    intro e he
    unfold plE
    split
    · rename_i hc
      exact ih (e + 1) (by omega)
    · exact he
theorem sameN_le (bs : List Nat) (p : Nat) : sameN bs p ≤ bs.length - p := by
  unfold sameN
  have := (List.takeWhile_sublist (l := bs.drop p) (fun x => x == bs.getD p 0)).length_le
  rw [List.length_drop] at this
  exact this
theorem sameN_pos {bs : List Nat} {p : Nat} (h : p < bs.length) : 1 ≤ sameN bs p := by
  unfold sameN
  rw [drop_cons h, List.takeWhile_cons, if_pos (by simp)]
  simp
theorem c_plain_loop {S : vSt} {r a N p : Nat} {bs : List Nat} (hR : RowIs S r a N bs) (hb : ∀ x ∈ bs, x < 256) : ∀ n e, p ≤ e → bs.length ≤ e + n → e ≤ bs.length → runv 140 4 [some (.ref r), some (.int (nI p)), some (.int (nI e))] [] (hp S) = some (some (.int (nI (plE bs p n e - p))), hp S) := by
  have h5 := hR.2.2.2.2.1
  have h6 := hR.2.2.2.2.2
  have t1 := rowt (S := S) hR.1
  intro n
  induction n with
  | zero =>
    intro e hpe hen hel
    rw [s140_4]
    simp only [s140_0, s140_1, s140_2, s140_3, s140_5, s140_6, s140_9, s140_12, s140_13, s140_14, s140_15, s140_18, s140_21, s140_22, s140_23, s140_26, s140_27, s140_30, s140_33, s140_36, s140_37, s140_38, s140_39, List.length_cons, List.length_nil, Nat.reduceAdd, Nat.reduceLeDiff, Nat.zero_le, t1, c_used hR, vbind_some, vpush_some]
    rw [if_pos (nI_le (by omega) (by omega)), pk_sub hpe]
    rfl
  | succ n ih =>
    intro e hpe hen hel
    rw [s140_4]
    simp only [s140_0, s140_1, s140_2, s140_3, s140_5, s140_6, s140_9, s140_12, s140_13, s140_14, s140_15, s140_18, s140_21, s140_22, s140_23, s140_26, s140_27, s140_30, s140_33, s140_36, s140_37, s140_38, s140_39, List.length_cons, List.length_nil, Nat.reduceAdd, Nat.reduceLeDiff, Nat.zero_le, t1, c_used hR, vbind_some, vpush_some, pk_sub hpe]
    rw [plE]
    by_cases h1 : e < bs.length
    · rw [if_neg (nI_ge h1 (by omega))]
      by_cases h2 : e - p < 128
      · rw [if_neg (show ¬ (128 : Int32) ≤ nI (e - p) from nI_ge (b := 128) h2 (by omega)), c_sameFrom hR hb h1]
        simp only [s140_0, s140_1, s140_2, s140_3, s140_5, s140_6, s140_9, s140_12, s140_13, s140_14, s140_15, s140_18, s140_21, s140_22, s140_23, s140_26, s140_27, s140_30, s140_33, s140_36, s140_37, s140_38, s140_39, vbind_some, vpush_some, nI_1, pk_sub hpe]
        have hs := sameN_le bs e
        by_cases h3 : sameN bs e < 3
        · rw [if_neg (show ¬ (3 : Int32) ≤ nI (sameN bs e) from nI_ge (b := 3) h3 (by omega)), if_pos ⟨h1, h2, h3⟩]
          exact ih (e + 1) (by omega) (by omega) (by omega)
        · rw [if_pos (show (3 : Int32) ≤ nI (sameN bs e) from nI_le (a := 3) (by omega) (by omega)), if_neg (fun q => h3 q.2.2)]
      · rw [if_pos (show (128 : Int32) ≤ nI (e - p) from nI_le (a := 128) (by omega) (by omega)), if_neg (fun q => h2 q.2.1)]
    · rw [if_pos (nI_le (by omega) (by omega)), if_neg (fun q => h1 q.1)]
def plN (bs : List Nat) (p : Nat) : Nat := plE bs p bs.length (p + 1) - p
theorem c_plain {S : vSt} {r a N p : Nat} {bs : List Nat} (hR : RowIs S r a N bs) (hb : ∀ x ∈ bs, x < 256) (hp0 : p < bs.length) : callv 140 [.ref r, .int (nI p)] (hp S) = some (some (.int (nI (plN bs p))), hp S) := by
  show runv 140 0 [some (.ref r), some (.int (nI p)), none] [] (hp S) = _
  simp only [s140_0, s140_1, s140_2, s140_3, nI_1]
  exact c_plain_loop hR hb bs.length (p + 1) (by omega) (by omega) (by omega)
theorem plN_in {bs : List Nat} {p : Nat} (h : p < bs.length) : 1 ≤ plN bs p ∧ p + plN bs p ≤ bs.length ∧ plN bs p ≤ 128 := by
  have h1 := plE_in bs p bs.length (p + 1) (by omega)
  have h2 := plE_128 bs p bs.length (p + 1) (by omega)
  unfold plN
  omega
def packF (bs : List Nat) : Nat → Nat → List Nat
  | 0, _ => []
  | n + 1, p => if p < bs.length then
      if 3 ≤ sameN bs p then [min (sameN bs p) 130 + 125, bs.getD p 0] ++ packF bs n (p + min (sameN bs p) 130)
      else (plN bs p - 1) :: ((bs.drop p).take (plN bs p) ++ packF bs n (p + plN bs p))
    else []
def packL (bs : List Nat) : List Nat := packF bs (bs.length + 1) 0
theorem c_pack_loop {rf af Nf rt at_ N : Nat} {bs : List Nat} (hb : ∀ x ∈ bs, x < 256) (hr : rf ≠ rt) (ha : af ≠ at_) : ∀ n p S ts w2 w4, RowIs S rf af Nf bs → RowIs S rt at_ N ts → bs.length < p + n → p ≤ bs.length → ts.length + (packF bs n p).length ≤ N → runv 139 2 [some (.ref rf), some (.ref rt), w2, some (.int (nI p)), w4] [] (hp S) = some (none, hp (rowSet S rt at_ (ts ++ packF bs n p))) := by
  intro n
  induction n with
  | zero => intro p S ts w2 w4 hF hT hp0 hpl hN; omega
  | succ n ih =>
    intro p S ts w2 w4 hF hT hp0 hpl hN
    have f5 := hF.2.2.2.2.1
    have f6 := hF.2.2.2.2.2
    have t6 := hT.2.2.2.2.2
    have tf := fun S => rowt (S := S) hF.1
    have tt := fun S => rowt (S := S) hT.1
    rw [s139_2]
    simp only [s139_0, s139_1, s139_3, s139_4, s139_7, s139_10, s139_11, s139_12, s139_15, s139_17, s139_19, s139_20, s139_23, s139_25, s139_28, s139_31, s139_32, s139_33, s139_34, s139_36, s139_37, s139_40, s139_41, s139_42, s139_43, s139_46, s139_49, s139_52, s139_53, s139_54, s139_57, s139_58, s139_59, s139_60, s139_61, s139_62, s139_65, s139_66, s139_67, s139_68, s139_69, s139_72, r139_72, s139_73, s139_74, s139_75, s139_76, s139_77, s139_80, List.length_cons, List.length_nil, Nat.reduceAdd, Nat.reduceLeDiff, Nat.zero_le, tf, c_used hF, vbind_some, vpush_some]
    by_cases h1 : p < bs.length
    · rw [if_neg (nI_ge h1 (by omega)), c_sameFrom hF hb h1]
      have hs := sameN_le bs p
      have hs1 := sameN_pos h1
      unfold packF at hN ⊢
      rw [if_pos h1] at hN ⊢
      by_cases h3 : 3 ≤ sameN bs p
      · rw [if_pos h3] at hN ⊢
        have emin : (if (130 : Int32) < nI (sameN bs p) then (130 : Int32) else nI (sameN bs p)) = nI (min (sameN bs p) 130) := by
          by_cases hlt : 130 < sameN bs p
          · rw [if_pos (show (130 : Int32) < nI (sameN bs p) from nI_lt (a := 130) hlt (by omega)), Nat.min_eq_right (by omega)]
            rfl
          · rw [if_neg (show ¬ (130 : Int32) < nI (sameN bs p) from nI_nlt (a := 130) (by omega) (by omega)), Nat.min_eq_left (by omega)]
        simp only [List.length_append, List.length_cons, List.length_nil] at hN
        have hT1 := hT.set (cs := ts ++ [min (sameN bs p) 130 + 125]) (by simp; omega)
        have hF1 : RowIs (rowSet S rt at_ (ts ++ [min (sameN bs p) 130 + 125])) rf af Nf bs := hF.other hr ha
        have hT2 := hT1.set (cs := ts ++ [min (sameN bs p) 130 + 125] ++ [bs.getD p 0]) (by simp; omega)
        have hF2 := hF1.other (ds := ts ++ [min (sameN bs p) 130 + 125] ++ [bs.getD p 0]) hr ha
        have e1 := c_add hT (x := min (sameN bs p) 130 + 125) (by omega)
        have e2 := c_add hT1 (x := bs.getD p 0) (by simp; omega)
        simp only [s139_0, s139_1, s139_3, s139_4, s139_7, s139_10, s139_11, s139_12, s139_15, s139_17, s139_19, s139_20, s139_23, s139_25, s139_28, s139_31, s139_32, s139_33, s139_34, s139_36, s139_37, s139_40, s139_41, s139_42, s139_43, s139_46, s139_49, s139_52, s139_53, s139_54, s139_57, s139_58, s139_59, s139_60, s139_61, s139_62, s139_65, s139_66, s139_67, s139_68, s139_69, s139_72, r139_72, s139_73, s139_74, s139_75, s139_76, s139_77, s139_80, vbind_some, vpush_some]
        rw [if_neg (show ¬ nI (sameN bs p) < 3 from nI_nlt (b := 3) h3 (by omega))]
        simp only [s139_0, s139_1, s139_3, s139_4, s139_7, s139_10, s139_11, s139_12, s139_15, s139_17, s139_19, s139_20, s139_23, s139_25, s139_28, s139_31, s139_32, s139_33, s139_34, s139_36, s139_37, s139_40, s139_41, s139_42, s139_43, s139_46, s139_49, s139_52, s139_53, s139_54, s139_57, s139_58, s139_59, s139_60, s139_61, s139_62, s139_65, s139_66, s139_67, s139_68, s139_69, s139_72, r139_72, s139_73, s139_74, s139_75, s139_76, s139_77, s139_80, emin, show (125 : Int32) = nI 125 from rfl, nI_add, List.length_cons, List.length_nil, Nat.reduceAdd, Nat.reduceLeDiff, Nat.zero_le, tt, tf, e1, c_get hF1, rget_in h1 (by omega), e2, vbind_some, vpush_some, vpush_none]
        rw [ih _ _ _ _ _ hF2 hT2 (by omega) (by omega) (by simp; omega)]
        rw [rowSet_grow (by simp), rowSet_grow (by simp)]
        simp only [List.append_assoc]
        rfl
      · rw [if_neg h3] at hN ⊢
        obtain ⟨q1, q2, q3⟩ := plN_in h1
        simp only [List.length_append, List.length_cons, List.length_take, List.length_drop] at hN
        have hT1 := hT.set (cs := ts ++ [plN bs p - 1]) (by simp; omega)
        have hF1 : RowIs (rowSet S rt at_ (ts ++ [plN bs p - 1])) rf af Nf bs := hF.other hr ha
        have hT2 := hT1.set (cs := ts ++ [plN bs p - 1] ++ (bs.drop p).take (plN bs p)) (by simp; omega)
        have hF2 := hF1.other (ds := ts ++ [plN bs p - 1] ++ (bs.drop p).take (plN bs p)) hr ha
        have e1 := c_add hT (x := plN bs p - 1) (by omega)
        have e2 := c_addPart hT1 hF1 (s := p) (n := plN bs p) q2 (by simp; omega)
        simp only [s139_0, s139_1, s139_3, s139_4, s139_7, s139_10, s139_11, s139_12, s139_15, s139_17, s139_19, s139_20, s139_23, s139_25, s139_28, s139_31, s139_32, s139_33, s139_34, s139_36, s139_37, s139_40, s139_41, s139_42, s139_43, s139_46, s139_49, s139_52, s139_53, s139_54, s139_57, s139_58, s139_59, s139_60, s139_61, s139_62, s139_65, s139_66, s139_67, s139_68, s139_69, s139_72, r139_72, s139_73, s139_74, s139_75, s139_76, s139_77, s139_80, vbind_some, vpush_some]
        rw [if_pos (show nI (sameN bs p) < 3 from nI_lt (b := 3) (by omega) (by omega))]
        simp only [s139_0, s139_1, s139_3, s139_4, s139_7, s139_10, s139_11, s139_12, s139_15, s139_17, s139_19, s139_20, s139_23, s139_25, s139_28, s139_31, s139_32, s139_33, s139_34, s139_36, s139_37, s139_40, s139_41, s139_42, s139_43, s139_46, s139_49, s139_52, s139_53, s139_54, s139_57, s139_58, s139_59, s139_60, s139_61, s139_62, s139_65, s139_66, s139_67, s139_68, s139_69, s139_72, r139_72, s139_73, s139_74, s139_75, s139_76, s139_77, s139_80, List.length_cons, List.length_nil, Nat.reduceAdd, Nat.reduceLeDiff, Nat.zero_le, tt, tf, c_plain hF hb h1, show (1 : Int32) = nI 1 from rfl, pk_sub q1, nI_add, e1, e2, vbind_some, vpush_some, vpush_none]
        rw [ih _ _ _ _ _ hF2 hT2 (by omega) (by omega) (by simp; omega)]
        rw [rowSet_grow (by simp), rowSet_grow (by simp)]
        simp only [List.append_assoc]
        rfl
    · rw [if_pos (nI_le (by omega) (by omega)), packF, if_neg h1, List.append_nil, rowSet_self hT]
theorem c_pack {S : vSt} {rf af Nf rt at_ N : Nat} {bs ts : List Nat} (hF : RowIs S rf af Nf bs) (hT : RowIs S rt at_ N ts) (hb : ∀ x ∈ bs, x < 256) (hr : rf ≠ rt) (ha : af ≠ at_) (hN : ts.length + (packL bs).length ≤ N) : callv 139 [.ref rf, .ref rt] (hp S) = some (none, hp (rowSet S rt at_ (ts ++ packL bs))) := by
  show runv 139 0 [some (.ref rf), some (.ref rt), none, none, none] [] (hp S) = _
  simp only [s139_0, s139_1]
  rw [show (0 : Int32) = nI 0 from rfl]
  exact c_pack_loop hb hr ha (bs.length + 1) 0 S ts none none hF hT (by omega) (by omega) hN
theorem c_runLength {h : vH} {c : Nat} (hc : c < 256) : callv 138 [.int (nI c)] h = some (some (.int (nI (if c < 128 then c + 1 else c - 125))), h) := by
  show runv 138 0 [some (.int (nI c))] [] h = _
  simp only [s138_0, s138_1, s138_4, s138_7, s138_8, s138_9, s138_10, s138_13, s138_14, s138_16, s138_17, nI_1]
  by_cases h1 : c < 128
  · rw [if_neg (show ¬ (128 : Int32) ≤ nI c from nI_ge (b := 128) h1 (by omega)), if_pos h1]
  · rw [if_pos (show (128 : Int32) ≤ nI c from nI_le (a := 128) (by omega) (by omega)), if_neg h1, show (125 : Int32) = nI 125 from rfl, pk_sub (by omega)]
