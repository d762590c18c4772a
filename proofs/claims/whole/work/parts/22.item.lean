/-! lists of IDs; items -/
def IdsIs (S : vSt) (l a N : Nat) (xs : List Int32) : Prop := sk[l]? = some (2, [some a, none]) ∧ sk[a]? = some (100, []) ∧ S.1 l 1 = nI xs.length ∧ (S.2 a).length = N ∧ (S.2 a).take xs.length = xs ∧ xs.length ≤ N ∧ N ≤ 10000
def idsSet (S : vSt) (l a : Nat) (xs : List Int32) : vSt := au (fu S l 1 (nI xs.length)) a (xs ++ (S.2 a).drop xs.length)
section IDS0
variable {S : vSt} {l a : Nat} {K : Value → Option (Option Value × vH)} {K2 : vH → Option (Option Value × vH)}
theorem ids0 (h : sk[l]? = some (2, [some a, none])) : vgf (hp S) l 2 0 K = K (.ref a) := vgf_ref h rfl rfl
theorem ids1 (h : sk[l]? = some (2, [some a, none])) : vgf (hp S) l 2 1 K = K (.int (S.1 l 1)) := vgf_int h rfl rfl
theorem idsp (h : sk[l]? = some (2, [some a, none])) {x : Int32} : vpf (hp S) l 2 1 (.int x) K2 = K2 (hp (fu S l 1 x)) := vpf_int h rfl rfl (vfit_int rfl)
theorem arl (h : sk[a]? = some (100, [])) : vlen2 (hp S) a K = K (.int (nI (S.2 a).length)) := vlen2_int h rfl
theorem arg (h : sk[a]? = some (100, [])) {i : Nat} (hi : i < (S.2 a).length) (hl : (S.2 a).length ≤ 10000) : vld2 (hp S) a (fun t => t == 100 || t == 104) (nI i) K = K (.int ((S.2 a).getD i 0)) := by
  rw [vld2_int h rfl rfl (nI_pos (by omega)) (by rw [nI_clamp (by omega)]; exact hi), nI_clamp (by omega)]
theorem arst (h : sk[a]? = some (100, [])) {i : Nat} {x : Int32} (hi : i < (S.2 a).length) (hl : (S.2 a).length ≤ 10000) : vst2 (hp S) a 100 (nI i) (.int x) K2 = K2 (hp (au S a ((S.2 a).set i x))) := by
  rw [vst2_int h rfl (nI_pos (by omega)) (by rw [nI_clamp (by omega)]; exact hi), nI_clamp (by omega)]
end IDS0
theorem IdsIs.get {S : vSt} {l a N i : Nat} {xs : List Int32} (h : IdsIs S l a N xs) (hi : i < xs.length) : (S.2 a).getD i 0 = xs.getD i 0 := by
  have e : ((S.2 a).take xs.length)[i]? = xs[i]? := by rw [h.2.2.2.2.1]
  rw [List.getElem?_take_of_lt hi] at e
  rw [List.getD_eq_getElem?_getD, e, List.getD_eq_getElem?_getD]
theorem IdsIs.set {S : vSt} {l a N : Nat} {xs ys : List Int32} (h : IdsIs S l a N xs) (hc : ys.length ≤ N) : IdsIs (idsSet S l a ys) l a N ys := by
  obtain ⟨h1, h2, h3, h4, h5, h6, h7⟩ := h
  refine ⟨h1, h2, ?_, ?_, ?_, hc, h7⟩
  · simp [idsSet, au_1, fu_at]
  · simp [idsSet, au_at]; omega
  · simp only [idsSet, au_at]
    rw [List.take_left' rfl]
theorem c_idsUsed {S : vSt} {l a N : Nat} {xs : List Int32} (h : IdsIs S l a N xs) : callv 92 [.ref l] (hp S) = some (some (.int (nI xs.length)), hp S) := by
  show runv 92 0 [some (.ref l)] [] (hp S) = _
  simp only [s92_0, s92_1, s92_4, ids1 h.1, h.2.2.1]
theorem c_idsClear {S : vSt} {l a N : Nat} {xs : List Int32} (h : IdsIs S l a N xs) : callv 94 [.ref l] (hp S) = some (none, hp (idsSet S l a [])) := by
  show runv 94 0 [some (.ref l)] [] (hp S) = _
  simp only [s94_0, s94_1, s94_2, s94_5, idsp h.1]
  rw [idsSet, au_self (by simp [fu_2])]
  rfl
theorem c_idsGet {S : vSt} {l a N i : Nat} {xs : List Int32} (h : IdsIs S l a N xs) (hi : i < xs.length) : callv 93 [.ref l, .int (nI i)] (hp S) = some (some (.int (xs.getD i 0)), hp S) := by
  have h0 := h
  obtain ⟨h1, h2, h3, h4, h5, h6, h7⟩ := h
  show runv 93 0 [some (.ref l), some (.int (nI i))] [] (hp S) = _
  simp only [s93_0, s93_1, s93_4, s93_5, s93_6, s93_9, s93_12, s93_13, s93_16, s93_17, s93_20, s93_21, s93_22, ids0 h1, ids1 h1, h3]
  rw [if_neg (nI_pos (by omega)), if_pos (nI_lt (by omega) (by omega)), arg h2 (by omega) (by omega), h0.get hi]
  simp only [s93_0, s93_1, s93_4, s93_5, s93_6, s93_9, s93_12, s93_13, s93_16, s93_17, s93_20, s93_21, s93_22]
theorem c_idsAdd_loop {S : vSt} {l a N : Nat} {x : Int32} {xs : List Int32} (h : IdsIs S l a N xs) (hl : xs.length < N) : ∀ k i, i + k = xs.length → runv 95 16 [some (.ref l), some (.int x), some (.int (nI i))] [] (hp S) = if x ∈ xs.drop i then some (some (.int 0), hp S) else some (some (.int 1), hp (idsSet S l a (xs ++ [x]))) := by
  have h0 := h
  obtain ⟨h1, h2, h3, h4, h5, h6, h7⟩ := h
  intro k
  induction k with
  | zero =>
    intro i hi
    rw [s95_16]
    simp only [s95_0, s95_1, s95_4, s95_5, s95_8, s95_9, s95_12, s95_13, s95_14, s95_15, s95_17, s95_18, s95_21, s95_24, s95_25, s95_28, s95_29, s95_30, s95_31, s95_34, s95_35, s95_36, s95_39, s95_42, s95_43, s95_46, s95_47, s95_50, s95_51, s95_52, s95_53, r95_53, s95_54, s95_57, s95_58, s95_59, s95_62, s95_63, ids0 h1, ids1 h1, h3]
    rw [if_pos (nI_le (by omega) (by omega)), List.drop_of_length_le (by omega), if_neg List.not_mem_nil, arst h2 (by omega) (by omega)]
    simp only [s95_0, s95_1, s95_4, s95_5, s95_8, s95_9, s95_12, s95_13, s95_14, s95_15, s95_17, s95_18, s95_21, s95_24, s95_25, s95_28, s95_29, s95_30, s95_31, s95_34, s95_35, s95_36, s95_39, s95_42, s95_43, s95_46, s95_47, s95_50, s95_51, s95_52, s95_53, r95_53, s95_54, s95_57, s95_58, s95_59, s95_62, s95_63, ids0 h1, ids1 h1, h3, au_1, idsp h1, nI_1, vb1]
    rw [set_app h5 (by omega)]
    congr 3
    simp only [idsSet, List.length_append, List.length_singleton]
    rfl
  | succ k ih =>
    intro i hi
    have hil : i < xs.length := by omega
    rw [s95_16]
    simp only [s95_0, s95_1, s95_4, s95_5, s95_8, s95_9, s95_12, s95_13, s95_14, s95_15, s95_17, s95_18, s95_21, s95_24, s95_25, s95_28, s95_29, s95_30, s95_31, s95_34, s95_35, s95_36, s95_39, s95_42, s95_43, s95_46, s95_47, s95_50, s95_51, s95_52, s95_53, r95_53, s95_54, s95_57, s95_58, s95_59, s95_62, s95_63, ids0 h1, ids1 h1, h3]
    rw [if_neg (nI_ge (by omega) (by omega)), arg h2 (by omega) (by omega), h0.get hil]
    simp only [s95_0, s95_1, s95_4, s95_5, s95_8, s95_9, s95_12, s95_13, s95_14, s95_15, s95_17, s95_18, s95_21, s95_24, s95_25, s95_28, s95_29, s95_30, s95_31, s95_34, s95_35, s95_36, s95_39, s95_42, s95_43, s95_46, s95_47, s95_50, s95_51, s95_52, s95_53, r95_53, s95_54, s95_57, s95_58, s95_59, s95_62, s95_63, vb0, nI_1]
    rw [ih (i + 1) (by omega)]
    have e : xs.drop i = xs.getD i 0 :: xs.drop (i + 1) := by
      rw [List.drop_eq_getElem_cons hil, List.getD_eq_getElem?_getD, List.getElem?_eq_getElem hil]
      rfl
    rw [e]
    by_cases hx : xs.getD i 0 = x
    · rw [if_pos hx, if_pos (by rw [hx]; exact List.mem_cons_self)]
    · rw [if_neg hx]
      have : (x ∈ xs.getD i 0 :: xs.drop (i + 1)) = (x ∈ xs.drop (i + 1)) := by
        rw [List.mem_cons]
        exact propext ⟨fun q => q.resolve_left (fun z => hx z.symm), Or.inr⟩
      simp only [this]
theorem c_idsAdd {S : vSt} {l a N : Nat} {x : Int32} {xs : List Int32} (h : IdsIs S l a N xs) : callv 95 [.ref l, .int x] (hp S) = if xs.length < N ∧ ¬ x ∈ xs then some (some (.int 1), hp (idsSet S l a (xs ++ [x]))) else some (some (.int 0), hp S) := by
  have h0 := h
  obtain ⟨h1, h2, h3, h4, h5, h6, h7⟩ := h
  show runv 95 0 [some (.ref l), some (.int x), none] [] (hp S) = _
  simp only [s95_0, s95_1, s95_4, s95_5, s95_8, s95_9, s95_12, s95_13, s95_14, s95_15, ids0 h1, ids1 h1, h3, arl h2, h4, vb0]
  by_cases hl : xs.length < N
  · rw [if_pos (nI_lt hl (by omega)), show (0 : Int32) = nI 0 from rfl, c_idsAdd_loop h0 hl xs.length 0 (by omega), List.drop_zero]
    by_cases hx : x ∈ xs
    · rw [if_pos hx, if_neg (fun q => q.2 hx)]
      rfl
    · rw [if_neg hx, if_pos ⟨hl, hx⟩]
  · rw [if_neg (nI_nlt (by omega) (by omega)), if_neg (fun q => hl q.1)]
/-- an item: its row r, the row's array a -/
def isItem (it r a : Nat) : Prop := sk[it]? = some (3, [some r, none, none]) ∧ isRow r a
def oid (k : Nat) (bs : List Nat) : Nat := hashN (hst (hst 7 k) bs.length) bs
def ItemIs (S : vSt) (it r a k : Nat) (bs : List Nat) : Prop := isItem it r a ∧ RowIs S r a 24 bs ∧ S.1 it 1 = nI k ∧ S.1 it 2 = nI (oid k bs) ∧ (∀ x ∈ bs, x < 256) ∧ k ≤ 3
def itemSet (S : vSt) (it r a k : Nat) (bs : List Nat) : vSt := fu (fu (rowSet S r a bs) it 1 (nI k)) it 2 (nI (oid k bs))
theorem oid_lt (k : Nat) (bs : List Nat) : oid k bs < 65521 := hashN_lt bs (hst_lt _ _)
section ITEM0
variable {S : vSt} {it r a : Nat} {K : Value → Option (Option Value × vH)} {K2 : vH → Option (Option Value × vH)}
theorem it0 (h : isItem it r a) : vgf (hp S) it 3 0 K = K (.ref r) := vgf_ref h.1 rfl rfl
theorem it1 (h : isItem it r a) : vgf (hp S) it 3 1 K = K (.int (S.1 it 1)) := vgf_int h.1 rfl rfl
theorem it2 (h : isItem it r a) : vgf (hp S) it 3 2 K = K (.int (S.1 it 2)) := vgf_int h.1 rfl rfl
theorem it1p (h : isItem it r a) {x : Int32} : vpf (hp S) it 3 1 (.int x) K2 = K2 (hp (fu S it 1 x)) := vpf_int h.1 rfl rfl (vfit_int rfl)
theorem it2p (h : isItem it r a) {x : Int32} : vpf (hp S) it 3 2 (.int x) K2 = K2 (hp (fu S it 2 x)) := vpf_int h.1 rfl rfl (vfit_int rfl)
theorem itt (h : isItem it r a) : vtag (hp S) it = 3 := vtag_hp h.1
theorem it_ne (h : isItem it r a) : r ≠ it := fun e => by
  have h1 := h.1
  have h2 := h.2.1
  rw [e, h1] at h2
  simp at h2
end ITEM0
theorem RowIs.fu {S : vSt} {r a N b k : Nat} {x : Int32} {bs : List Nat} (h : RowIs S r a N bs) (hb : r ≠ b) : RowIs (fu S b k x) r a N bs := by
  obtain ⟨h1, h2, h3, h4, h5, h6⟩ := h
  exact ⟨h1, by rw [fu_a S _ hb, h2], h3, h4, h5, h6⟩
theorem c_sort {S : vSt} {it r a : Nat} (h : isItem it r a) : callv 97 [.ref it] (hp S) = some (some (.int (S.1 it 1)), hp S) := by
  show runv 97 0 [some (.ref it)] [] (hp S) = _
  simp only [s97_0, s97_1, s97_4, it1 h]
theorem c_id {S : vSt} {it r a : Nat} (h : isItem it r a) : callv 98 [.ref it] (hp S) = some (some (.int (S.1 it 2)), hp S) := by
  show runv 98 0 [some (.ref it)] [] (hp S) = _
  simp only [s98_0, s98_1, s98_4, it2 h]
theorem c_bytes {S : vSt} {it r a : Nat} (h : isItem it r a) : callv 99 [.ref it] (hp S) = some (some (.ref r), hp S) := by
  show runv 99 0 [some (.ref it)] [] (hp S) = _
  simp only [s99_0, s99_1, s99_4, n99_4, it0 h]
theorem c_clear0 {S : vSt} {r a : Nat} (hr : isRow r a) : callv 146 [.ref r] (hp S) = some (none, hp (fu S r 1 0)) := by
  show runv 146 0 [some (.ref r)] [] (hp S) = _
  simp only [s146_0, s146_1, s146_2, s146_5, rowp hr]
theorem row_nil {S : vSt} {r a N : Nat} (hr : isRow r a) (hl : (S.2 a).length = N) (hN : N ≤ 10000) : RowIs (fu S r 1 0) r a N [] := ⟨hr, by rw [fu_at]; rfl, hl, rfl, Nat.zero_le _, hN⟩
theorem c_finish {S : vSt} {it r a N k : Nat} {bs : List Nat} (h : isItem it r a) (hR : RowIs S r a N bs) (hb : ∀ x ∈ bs, x < 256) (hk : k ≤ 255) : callv 101 [.ref it, .int (nI k)] (hp S) = some (none, hp (fu (fu S it 1 (nI k)) it 2 (nI (oid k bs)))) := by
  show runv 101 0 [some (.ref it), some (.int (nI k)), none] [] (hp S) = _
  have hR1 : RowIs (fu S it 1 (nI k)) r a N bs := hR.fu (it_ne h)
  have h5 := hR.2.2.2.2.1
  have h6 := hR.2.2.2.2.2
  have ht := rowt (S := fu S it 1 (nI k)) h.2
  have e1 := c_hashStep (h := hp (fu S it 1 (nI k))) (g := 7) (x := k) (by omega) (by omega)
  have e2 := c_hashStep (h := hp (fu S it 1 (nI k))) (g := hst 7 k) (x := bs.length) (hst_lt _ _) (by omega)
  have e3 := c_hashOn hR1 hb (n := bs.length) (g := hst (hst 7 k) bs.length) (by omega) (hst_lt _ _)
  rw [List.take_length] at e3
  simp only [s101_0, s101_1, s101_2, s101_5, s101_7, s101_8, s101_11, s101_14, s101_15, s101_18, s101_21, s101_24, s101_25, s101_26, s101_27, s101_30, s101_31, s101_32, s101_35, s101_38, s101_41, s101_44, it1p h, it1 h, it0 h, fu_at, List.length_cons, List.length_nil, Nat.reduceAdd, Nat.reduceLeDiff, Nat.zero_le, ht, show (7 : Int32) = nI 7 from rfl, e1, c_used hR1, vbind_some, vpush_some, e2, e3, it2p h]
  rfl
theorem c_fill {S : vSt} {it r a k r' a' N' : Nat} {cs : List Nat} (h : isItem it r a) (hl : (S.2 a).length = 24) (hR : RowIs S r' a' N' cs) (hb : ∀ x ∈ cs, x < 256) (hk : k ≤ 255) (hne : r' ≠ r) (hc : cs.length ≤ 24) : callv 100 [.ref it, .int (nI k), .ref r'] (hp S) = some (none, hp (itemSet S it r a k cs)) := by
  show runv 100 0 [some (.ref it), some (.int (nI k)), some (.ref r')] [] (hp S) = _
  have h0 := row_nil (S := S) h.2 hl (by omega)
  have hR1 : RowIs (fu S r 1 0) r' a' N' cs := hR.fu hne
  have e1 := c_addAll h0 hR1 (by simp; omega)
  rw [List.nil_append] at e1
  have h2 := h0.set (cs := cs) hc
  have e2 := c_finish h h2 hb hk
  have e3 : rowSet (fu S r 1 0) r a cs = rowSet S r a cs := by
    refine Prod.ext ?_ rfl
    funext b j
    simp only [rowSet, au_1, fu]
    split <;> rfl
  rw [e3] at e1 e2
  have t1 := fun S => rowt (S := S) h.2
  have t2 := fun S => itt (S := S) h
  simp only [s100_0, s100_1, s100_4, s100_7, s100_8, s100_11, s100_12, s100_15, s100_16, s100_17, s100_20, it0 h, List.length_cons, List.length_nil, Nat.reduceAdd, Nat.reduceLeDiff, Nat.zero_le, t1, t2, c_clear0 h.2, vbind_some, vpush_none, e1, e2]
  rfl
theorem ItemIs.set {S : vSt} {it r a k : Nat} {bs : List Nat} (h : isItem it r a) (hl : (S.2 a).length = 24) (hb : ∀ x ∈ bs, x < 256) (hk : k ≤ 3) (hc : bs.length ≤ 24) : ItemIs (itemSet S it r a k bs) it r a k bs := by
  have hR : RowIs (rowSet S r a bs) r a 24 bs := by
    refine ⟨h.2, ?_, ?_, ?_, hc, by omega⟩
    · simp [rowSet, au_1, fu_at]
    · simp [rowSet, au_at]; omega
    · simp only [rowSet, au_at]
      rw [List.take_left' (by simp)]
  refine ⟨h, (hR.fu (it_ne h)).fu (it_ne h), ?_, ?_, hb, hk⟩
  · rw [itemSet, fu_k _ _ (by decide), fu_at]
  · rw [itemSet, fu_at]
theorem c_itemSame {S : vSt} {it r a k it' r' a' k' : Nat} {bs cs : List Nat} (h : ItemIs S it r a k bs) (h' : ItemIs S it' r' a' k' cs) : callv 102 [.ref it, .ref it'] (hp S) = some (some (.int (bI (decide (k = k' ∧ bs = cs)))), hp S) := by
  obtain ⟨h1, h2, h3, h4, h5, h6⟩ := h
  obtain ⟨g1, g2, g3, g4, g5, g6⟩ := h'
  show runv 102 0 [some (.ref it), some (.ref it')] [] (hp S) = _
  have t1 := rowt (S := S) h1.2
  simp only [s102_0, s102_1, s102_4, s102_5, s102_8, s102_11, s102_12, s102_15, s102_16, s102_19, s102_22, s102_25, s102_26, s102_29, s102_30, it1 h1, it1 g1, it0 h1, it0 g1, h3, g3, nI_inj (show k < 2 ^ 31 by omega) (show k' < 2 ^ 31 by omega), List.length_nil, Nat.zero_le, t1, c_isSame h2 g2 h5 g5, vbind_some, vpush_some, if_bI, vb0, vb1]
  by_cases hk : k = k'
  · by_cases hb : bs = cs <;> simp [hk, hb, bI]
  · simp [hk, bI]
theorem c_clashes {S : vSt} {it r a k it' r' a' k' : Nat} {bs cs : List Nat} (h : ItemIs S it r a k bs) (h' : ItemIs S it' r' a' k' cs) : callv 103 [.ref it, .ref it'] (hp S) = some (some (.int (bI (decide (oid k bs = oid k' cs ∧ ¬ (k = k' ∧ bs = cs))))), hp S) := by
  have e := c_itemSame h h'
  obtain ⟨h1, h2, h3, h4, h5, h6⟩ := h
  obtain ⟨g1, g2, g3, g4, g5, g6⟩ := h'
  show runv 103 0 [some (.ref it), some (.ref it')] [] (hp S) = _
  have t1 := itt (S := S) h1
  have o1 := oid_lt k bs
  have o2 := oid_lt k' cs
  simp only [s103_0, s103_1, s103_4, s103_5, s103_8, s103_11, s103_12, s103_13, s103_16, s103_19, s103_20, s103_23, s103_24, it2 h1, it2 g1, h4, g4, nI_inj (show oid k bs < 2 ^ 31 by omega) (show oid k' cs < 2 ^ 31 by omega), List.length_nil, Nat.zero_le, t1, e, vbind_some, vpush_some, if_bI, vb0, vb1]
  by_cases hk : oid k bs = oid k' cs
  · by_cases hb : k = k' ∧ bs = cs <;> simp [hk, hb, bI]
  · simp [hk, bI]
def RisingF (bs : List Nat) (p : Nat) : Prop := ∀ q, q < bs.length → p ≤ q → q % 3 = 0 → bs.getD (q - 3) 0 < bs.getD q 0
theorem rget_in {bs : List Nat} {p : Nat} (h : p < bs.length) (hl : bs.length ≤ 10000) : rget bs (nI p) = nI (bs.getD p 0) := by
  unfold rget
  rw [if_neg (nI_pos (by omega)), if_pos (nI_lt h (by omega)), nI_clamp (by omega)]
theorem c_rising_loop {S : vSt} {it r a k : Nat} {bs : List Nat} (h : ItemIs S it r a k bs) : ∀ n p, bs.length < p + 3 * n → 3 ≤ p → p % 3 = 0 → p ≤ 100 → ∃ b : Bool, (b = true ↔ RisingF bs p) ∧ runv 105 2 [some (.ref it), some (.int (nI p))] [] (hp S) = some (some (.int (bI b)), hp S) := by
  obtain ⟨h1, h2, h3, h4, h5, h6⟩ := h
  have h7 := h2.2.2.2.2.1
  have t1 := rowt (S := S) h1.2
  intro n
  induction n with
  | zero =>
    intro p hp0 hp3 hpm hpl
    rw [s105_2]
    simp only [s105_0, s105_1, s105_3, s105_4, s105_7, s105_10, s105_13, s105_14, s105_17, s105_18, s105_21, s105_22, s105_25, s105_26, s105_27, s105_28, s105_31, s105_34, s105_35, s105_36, s105_39, s105_42, s105_43, it0 h1, List.length_cons, List.length_nil, Nat.reduceAdd, Nat.reduceLeDiff, Nat.zero_le, t1, c_used h2, vbind_some, vpush_some, vb1]
    rw [if_pos (nI_le (by omega) (by omega))]
    exact ⟨true, by simp only [true_iff]; intro q hq hpq; omega, rfl⟩
  | succ n ih =>
    intro p hp0 hp3 hpm hpl
    rw [s105_2]
    simp only [s105_0, s105_1, s105_3, s105_4, s105_7, s105_10, s105_13, s105_14, s105_17, s105_18, s105_21, s105_22, s105_25, s105_26, s105_27, s105_28, s105_31, s105_34, s105_35, s105_36, s105_39, s105_42, s105_43, it0 h1, List.length_cons, List.length_nil, Nat.reduceAdd, Nat.reduceLeDiff, Nat.zero_le, t1, c_used h2, c_get h2, vbind_some, vpush_some, vb0, vb1]
    by_cases hlp : bs.length ≤ p
    · rw [if_pos (nI_le hlp (by omega))]
      exact ⟨true, by simp only [true_iff]; intro q hq hpq; omega, rfl⟩
    · rw [if_neg (nI_ge (by omega) (by omega)), show (3 : Int32) = nI 3 from rfl, pk_sub hp3, rget_in (by omega) (by omega), rget_in (by omega) (by omega), nI_add]
      have e1 := getD_lt h5 p
      have e2 := getD_lt h5 (p - 3)
      simp only [nI_ltI (show bs.getD (p - 3) 0 < 2 ^ 31 by omega) (show bs.getD p 0 < 2 ^ 31 by omega)]
      by_cases hgt : bs.getD (p - 3) 0 < bs.getD p 0
      · rw [if_pos hgt]
        obtain ⟨b, hb, hr⟩ := ih (p + 3) (by omega) (by omega) (by omega) (by omega)
        refine ⟨b, ?_, hr⟩
        rw [hb]
        constructor
        · intro hf q hq hpq hm
          by_cases hqp : q = p
          · subst hqp; exact hgt
          · exact hf q hq (by omega) hm
        · intro hf q hq hpq hm
          exact hf q hq (by omega) hm
      · rw [if_neg hgt]
        exact ⟨false, by simp only [Bool.false_eq_true, false_iff]; intro hf; exact hgt (hf p (by omega) (by omega) hpm), rfl⟩
def wfO (k : Nat) (bs : List Nat) : Prop := (k = 1 → bs.length = 3 ∨ bs.length = 5 ∨ bs.length = 7) ∧ (k = 2 → bs.length % 3 = 0 ∧ RisingF bs 3)
theorem c_wellFormed {S : vSt} {it r a k : Nat} {bs : List Nat} (h : ItemIs S it r a k bs) : ∃ b : Bool, (b = true ↔ wfO k bs) ∧ callv 104 [.ref it] (hp S) = some (some (.int (bI b)), hp S) := by
  obtain ⟨b, hb, hr⟩ := c_rising_loop h 9 3 (by have := h.2.1.2.2.2.2.1; omega) (by omega) (by omega) (by omega)
  obtain ⟨h1, h2, h3, h4, h5, h6⟩ := h
  have h7 := h2.2.2.2.2.1
  have t1 := rowt (S := S) h1.2
  have t2 := itt (S := S) h1
  have e105 : callv 105 [.ref it] (hp S) = some (some (.int (bI b)), hp S) := by
    show runv 105 0 [some (.ref it), none] [] (hp S) = _
    simp only [s105_0, s105_1]
    exact hr
  have e0 : ¬ (3 : Int32) = 0 := by decide
  have hrem : nI bs.length - nI bs.length / 3 * 3 = nI (bs.length % 3) := pk_rem (d := 3) (by omega) (by omega) (by omega)
  have c3 : (nI bs.length = 3) = (bs.length = 3) := nI_inj (b := 3) (by omega) (by omega)
  have c5 : (nI bs.length = 5) = (bs.length = 5) := nI_inj (b := 5) (by omega) (by omega)
  have c7 : (nI bs.length = 7) = (bs.length = 7) := nI_inj (b := 7) (by omega) (by omega)
  have k1 : (nI k = 1) = (k = 1) := nI_inj (b := 1) (by omega) (by omega)
  have k2 : (nI k = 2) = (k = 2) := nI_inj (b := 2) (by omega) (by omega)
  have m0 : (nI (bs.length % 3) = 0) = (bs.length % 3 = 0) := nI_inj (b := 0) (by omega) (by omega)
  have main : callv 104 [.ref it] (hp S) = if k = 1 then (if bs.length = 3 then some (some (.int 1), hp S) else if bs.length = 5 then some (some (.int 1), hp S) else if bs.length = 7 then some (some (.int 1), hp S) else some (some (.int 0), hp S)) else if k = 2 then (if bs.length % 3 = 0 then (if b = true then some (some (.int 1), hp S) else some (some (.int 0), hp S)) else some (some (.int 0), hp S)) else some (some (.int 1), hp S) := by
    show runv 104 0 [some (.ref it), none] [] (hp S) = _
    simp only [s104_0, s104_1, s104_4, s104_7, s104_8, s104_9, s104_12, s104_40, s104_41, s104_42, s104_45, s104_46, s104_47, s104_50, s104_51, s104_53, s104_56, s104_57, s104_60, s104_61, s104_62, s104_63, s104_64, s104_65, s104_68, s104_69, s104_72, s104_75, s104_76, s104_79, s104_80, s104_81, s104_82, it0 h1, it1 h1, h3, List.length_cons, List.length_nil, Nat.reduceAdd, Nat.reduceLeDiff, Nat.zero_le, t1, t2, c_used h2, e105, vbind_some, vpush_some, vb0, vb1, e0, not_false_eq_true, hrem, c3, c5, c7, k1, k2, m0, if_bI]
  rw [main]
  unfold wfO
  by_cases q1 : k = 1
  · rw [if_pos q1]
    by_cases l3 : bs.length = 3
    · rw [if_pos l3]; exact ⟨true, by simp [q1, l3], rfl⟩
    · rw [if_neg l3]
      by_cases l5 : bs.length = 5
      · rw [if_pos l5]; exact ⟨true, by simp [q1, l5], rfl⟩
      · rw [if_neg l5]
        by_cases l7 : bs.length = 7
        · rw [if_pos l7]; exact ⟨true, by simp [q1, l7], rfl⟩
        · rw [if_neg l7]; exact ⟨false, by simp [q1, l3, l5, l7], rfl⟩
  · rw [if_neg q1]
    by_cases q2 : k = 2
    · rw [if_pos q2]
      by_cases lm : bs.length % 3 = 0
      · rw [if_pos lm]
        cases b with
        | true => exact ⟨true, by simp [q2, lm]; exact hb.mp rfl, rfl⟩
        | false => exact ⟨false, by simp [q2, lm]; intro z; exact absurd (hb.mpr z) (by decide), rfl⟩
      · rw [if_neg lm]; exact ⟨false, by simp [q2, lm], rfl⟩
    · rw [if_neg q2]; exact ⟨true, by simp [q1, q2], rfl⟩
