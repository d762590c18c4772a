/-! what items name; shelves -/
def nmN (k n : Nat) : Nat := if k = 1 then (n - 1) / 2 else if k = 2 then n / 3 else 0
theorem c_namedItems {S : vSt} {it r a k : Nat} {bs : List Nat} (h : ItemIs S it r a k bs) : callv 106 [.ref it] (hp S) = some (some (.int (nI (nmN k bs.length))), hp S) := by
  obtain ⟨h1, h2, h3, h4, h5, h6⟩ := h
  have h7 := h2.2.2.2.2.1
  have t1 := rowt (S := S) h1.2
  have k1 : (nI k = 1) = (k = 1) := nI_inj (b := 1) (by omega) (by omega)
  have k2 : (nI k = 2) = (k = 2) := nI_inj (b := 2) (by omega) (by omega)
  have e0 : ¬ (3 : Int32) = 0 := by decide
  have e2 : ¬ (2 : Int32) = 0 := by decide
  have d3 : nI bs.length / 3 = nI (bs.length / 3) := pk_div (d := 3) (by omega) (by omega) (by omega)
  have d2 : (nI bs.length - 1) / 2 = nI ((bs.length - 1) / 2) := by
    by_cases hz : bs.length = 0
    · rw [hz]; decide
    · rw [show (1 : Int32) = nI 1 from rfl, pk_sub (by omega)]
      exact pk_div (d := 2) (by omega) (by omega) (by omega)
  show runv 106 0 [some (.ref it)] [] (hp S) = _
  simp only [s106_0, s106_1, s106_4, s106_32, s106_33, s106_36, s106_39, s106_40, s106_41, s106_42, s106_43, s106_44, s106_45, s106_48, s106_51, s106_52, s106_53, s106_54, s106_55, it0 h1, it1 h1, h3, List.length_cons, List.length_nil, Nat.reduceAdd, Nat.reduceLeDiff, Nat.zero_le, t1, c_used h2, vbind_some, vpush_some, e0, e2, not_false_eq_true, k1, k2, d3, d2]
  unfold nmN
  by_cases q1 : k = 1
  · rw [if_pos q1, if_pos q1]
  · rw [if_neg q1, if_neg q1]
    by_cases q2 : k = 2
    · rw [if_pos q2, if_pos q2]
    · rw [if_neg q2, if_neg q2]; rfl
def nmP (k i : Nat) : Nat := if k = 1 then 2 * i else 3 * i + 1
def nmId (k : Nat) (bs : List Nat) (i : Nat) : Nat := bs.getD (nmP k i) 0 * 256 + bs.getD (nmP k i + 1) 0
theorem c_namedId {S : vSt} {it r a k i : Nat} {bs : List Nat} (h : ItemIs S it r a k bs) (hi : nmP k i + 1 < bs.length) : callv 107 [.ref it, .int (nI i)] (hp S) = some (some (.int (nI (nmId k bs i))), hp S) := by
  obtain ⟨h1, h2, h3, h4, h5, h6⟩ := h
  have h7 := h2.2.2.2.2.1
  have t1 := rowt (S := S) h1.2
  have k1 : (nI k = 1) = (k = 1) := nI_inj (b := 1) (by omega) (by omega)
  show runv 107 0 [some (.ref it), some (.int (nI i))] [] (hp S) = _
  simp only [s107_0, s107_1, s107_4, s107_5, s107_8, s107_9, s107_12, s107_13, s107_14, s107_15, s107_18, s107_19, s107_20, s107_21, s107_22, it0 h1, it1 h1, h3, k1]
  have e1 : (2 : Int32) * nI i = nI (2 * i) := by rw [show (2 : Int32) = nI 2 from rfl, pk_mul]
  have e2 : (3 : Int32) * nI i + 1 = nI (3 * i + 1) := by rw [show (3 : Int32) = nI 3 from rfl, pk_mul, nI_1]
  have key : runv 107 23 [some (.ref it), some (.int (nI i))] [.int (nI (nmP k i)), .ref r] (hp S) = some (some (.int (nI (nmId k bs i))), hp S) := by
    simp only [s107_23, s107_26, List.length_cons, List.length_nil, Nat.reduceAdd, Nat.reduceLeDiff, Nat.zero_le, t1, c_getTwo h2, vbind_some, vpush_some]
    rw [nI_1, rget_in (by omega) (by omega), rget_in hi (by omega), show (256 : Int32) = nI 256 from rfl, pk_mul, nI_add]
    rfl
  rw [e1, e2]
  unfold nmP at key
  by_cases q1 : k = 1
  · rw [if_pos q1] at key ⊢
    exact key
  · rw [if_neg q1] at key ⊢
    exact key
def mayN (k i o : Nat) : Bool := if k = 1 then decide (o = if i = 0 then 2 else 1) else decide (o = 2 ∨ o = 3)
theorem c_mayName {S : vSt} {it r a k i o : Nat} {bs : List Nat} (h : ItemIs S it r a k bs) (hi : i < 100) (ho : o < 100) : callv 108 [.ref it, .int (nI i), .int (nI o)] (hp S) = some (some (.int (bI (mayN k i o))), hp S) := by
  obtain ⟨h1, h2, h3, h4, h5, h6⟩ := h
  have k1 : (nI k = 1) = (k = 1) := nI_inj (b := 1) (by omega) (by omega)
  have i0 : (nI i = 0) = (i = 0) := nI_inj (b := 0) (by omega) (by omega)
  have o1 : (nI o = 1) = (o = 1) := nI_inj (b := 1) (by omega) (by omega)
  have o2 : (nI o = 2) = (o = 2) := nI_inj (b := 2) (by omega) (by omega)
  have o3 : (nI o = 3) = (o = 3) := nI_inj (b := 3) (by omega) (by omega)
  show runv 108 0 [some (.ref it), some (.int (nI i)), some (.int (nI o))] [] (hp S) = _
  simp only [s108_0, s108_1, s108_4, s108_5, s108_8, s108_9, s108_10, s108_13, s108_14, s108_17, s108_18, s108_21, s108_22, s108_25, s108_26, s108_27, s108_28, s108_29, s108_32, s108_33, s108_34, s108_37, s108_38, s108_41, s108_42, it1 h1, h3, k1, i0, o1, o2, o3, vb0, vb1]
  unfold mayN
  by_cases q1 : k = 1
  · rw [if_pos q1, if_pos q1]
    by_cases q2 : i = 0
    · rw [if_pos q2, if_pos q2]
      by_cases q3 : o = 2 <;> simp [q3, bI]
    · rw [if_neg q2, if_neg q2]
      by_cases q3 : o = 1 <;> simp [q3, bI]
  · rw [if_neg q1, if_neg q1]
    by_cases q3 : o = 2
    · simp [q3, bI]
    · by_cases q4 : o = 3 <;> simp [q3, q4, bI]
/-- a shelf: its array behind it, then its items, three cells each -/
def isShelf (sh cap : Nat) : Prop := sk[sh]? = some (4, [some (sh + 1), none]) ∧ (∃ tm, sk[sh + 1]? = some (102, tm) ∧ tm.length = cap ∧ ∀ i, i < cap → tm[i]? = some (some (sh + 2 + 3 * i))) ∧ (∀ i, i < cap → isItem (sh + 2 + 3 * i) (sh + 3 + 3 * i) (sh + 4 + 3 * i)) ∧ cap ≤ 100
theorem isShelf_s : isShelf 4 16 := ⟨rfl, ⟨_, rfl, rfl, by decide +kernel⟩, fun i hi => by
  have h : ∀ i, i < 16 → sk[4 + 2 + 3 * i]? = some (3, [some (4 + 3 + 3 * i), none, none]) ∧ sk[4 + 3 + 3 * i]? = some (1, [some (4 + 4 + 3 * i), none]) ∧ sk[4 + 4 + 3 * i]? = some (100, []) := by decide +kernel
  obtain ⟨a, b, c⟩ := h i hi
  exact ⟨a, b, c⟩, by omega⟩
theorem isShelf_c : isShelf 54 24 := ⟨rfl, ⟨_, rfl, rfl, by decide +kernel⟩, fun i hi => by
  have h : ∀ i, i < 24 → sk[54 + 2 + 3 * i]? = some (3, [some (54 + 3 + 3 * i), none, none]) ∧ sk[54 + 3 + 3 * i]? = some (1, [some (54 + 4 + 3 * i), none]) ∧ sk[54 + 4 + 3 * i]? = some (100, []) := by decide +kernel
  obtain ⟨a, b, c⟩ := h i hi
  exact ⟨a, b, c⟩, by omega⟩
abbrev Obj : Type := Nat × List Nat
def ShelfIs (S : vSt) (sh cap : Nat) (os : List Obj) : Prop := isShelf sh cap ∧ os.length ≤ cap ∧ S.1 sh 1 = nI os.length ∧ (∀ i o, os[i]? = some o → ItemIs S (sh + 2 + 3 * i) (sh + 3 + 3 * i) (sh + 4 + 3 * i) o.1 o.2) ∧ ∀ i, i < cap → (S.2 (sh + 4 + 3 * i)).length = 24
section SHELF0
variable {S : vSt} {sh cap : Nat} {K : Value → Option (Option Value × vH)} {K2 : vH → Option (Option Value × vH)}
theorem sh0 (h : isShelf sh cap) : vgf (hp S) sh 4 0 K = K (.ref (sh + 1)) := vgf_ref h.1 rfl rfl
theorem sh1 (h : isShelf sh cap) : vgf (hp S) sh 4 1 K = K (.int (S.1 sh 1)) := vgf_int h.1 rfl rfl
theorem sh1p (h : isShelf sh cap) {x : Int32} : vpf (hp S) sh 4 1 (.int x) K2 = K2 (hp (fu S sh 1 x)) := vpf_int h.1 rfl rfl (vfit_int rfl)
theorem sht (h : isShelf sh cap) : vtag (hp S) sh = 4 := vtag_hp h.1
theorem shl (h : isShelf sh cap) : vlen2 (hp S) (sh + 1) K = K (.int (nI cap)) := by
  obtain ⟨-, ⟨tm, h1, h2, h3⟩, -⟩ := h
  rw [vlen2_ref h1 rfl (by omega), h2]
  rfl
theorem shg (h : isShelf sh cap) {i : Nat} (hi : i < cap) : vld2 (hp S) (sh + 1) (fun t => t == 102 || t == 103) (nI i) K = K (.ref (sh + 2 + 3 * i)) := by
  obtain ⟨-, ⟨tm, h1, h2, h3⟩, -, h4⟩ := h
  exact vld2_ref h1 rfl rfl (nI_pos (by omega)) (by rw [nI_clamp (by omega)]; exact h3 i hi)
end SHELF0
theorem c_held {S : vSt} {sh cap : Nat} {os : List Obj} (h : ShelfIs S sh cap os) : callv 158 [.ref sh] (hp S) = some (some (.int (nI os.length)), hp S) := by
  show runv 158 0 [some (.ref sh)] [] (hp S) = _
  simp only [s158_0, s158_1, s158_4, sh1 h.1, h.2.2.1]
theorem c_shLeft {S : vSt} {sh cap : Nat} {os : List Obj} (h : ShelfIs S sh cap os) : callv 159 [.ref sh] (hp S) = some (some (.int (nI (cap - os.length))), hp S) := by
  show runv 159 0 [some (.ref sh)] [] (hp S) = _
  simp only [s159_0, s159_1, s159_4, s159_5, s159_6, s159_9, s159_10, sh0 h.1, sh1 h.1, shl h.1, h.2.2.1, pk_sub h.2.1]
theorem c_shGet {S : vSt} {sh cap i : Nat} (h : isShelf sh cap) (hi : i < cap) : callv 160 [.ref sh, .int (nI i)] (hp S) = some (some (.ref (sh + 2 + 3 * i)), hp S) := by
  show runv 160 0 [some (.ref sh), some (.int (nI i))] [] (hp S) = _
  simp only [s160_0, s160_1, s160_4, s160_5, s160_6, n160_6, sh0 h, shg h hi]
theorem c_shClear {S : vSt} {sh cap : Nat} (h : isShelf sh cap) : callv 161 [.ref sh] (hp S) = some (none, hp (fu S sh 1 0)) := by
  show runv 161 0 [some (.ref sh)] [] (hp S) = _
  simp only [s161_0, s161_1, s161_2, s161_5, sh1p h]
/-- the place of an ID: the first; -1 -/
def fIdx (os : List Obj) (id : Int32) : Option Nat := os.findIdx? fun o => decide (nI (oid o.1 o.2) = id)
def oI (o : Option Nat) : Int32 := match o with
  | some i => nI i
  | none => -1
theorem c_find_loop {S : vSt} {sh cap : Nat} {id : Int32} {os : List Obj} (h : ShelfIs S sh cap os) : ∀ k i, i + k = os.length → runv 162 2 [some (.ref sh), some (.int id), some (.int (nI i))] [] (hp S) = some (some (.int (oI ((fIdx (os.drop i) id).map (fun j => i + j)))), hp S) := by
  obtain ⟨h1, h2, h3, h4, h5⟩ := h
  have hc := h1.2.2.2
  intro k
  induction k with
  | zero =>
    intro i hi
    rw [s162_2]
    simp only [s162_0, s162_1, s162_3, s162_4, s162_7, s162_10, s162_11, s162_14, s162_15, s162_16, s162_19, s162_20, s162_23, s162_24, s162_25, s162_28, s162_31, s162_32, sh0 h1, sh1 h1, h3]
    rw [if_pos (nI_le (by omega) (by omega)), List.drop_of_length_le (by omega)]
    rfl
  | succ k ih =>
    intro i hi
    have hil : i < os.length := by omega
    have hit := h4 i os[i] (List.getElem?_eq_getElem hil)
    have t1 := itt (S := S) hit.1
    rw [s162_2]
    simp only [s162_0, s162_1, s162_3, s162_4, s162_7, s162_10, s162_11, s162_14, s162_15, s162_16, s162_19, s162_20, s162_23, s162_24, s162_25, s162_28, s162_31, s162_32, sh0 h1, sh1 h1, h3, shg h1 (show i < cap by omega)]
    rw [if_neg (nI_ge (by omega) (by omega))]
    simp only [s162_0, s162_1, s162_3, s162_4, s162_7, s162_10, s162_11, s162_14, s162_15, s162_16, s162_19, s162_20, s162_23, s162_24, s162_25, s162_28, s162_31, s162_32, List.length_cons, List.length_nil, Nat.reduceAdd, Nat.reduceLeDiff, Nat.zero_le, t1, c_id hit.1, vbind_some, vpush_some, nI_1, hit.2.2.2.1]
    rw [ih (i + 1) (by omega), List.drop_eq_getElem_cons hil]
    simp only [fIdx, List.findIdx?_cons]
    by_cases hq : nI (oid os[i].1 os[i].2) = id
    · rw [if_pos hq, if_pos (decide_eq_true hq)]
      rfl
    · rw [if_neg hq, if_neg (by simp [hq])]
      cases List.findIdx? (fun o => decide (nI (oid o.1 o.2) = id)) (os.drop (i + 1)) with
      | none => rfl
      | some j =>
        simp only [Option.map_some, oI]
        rw [show i + 1 + j = i + (j + 1) by omega]
theorem c_find {S : vSt} {sh cap : Nat} {id : Int32} {os : List Obj} (h : ShelfIs S sh cap os) : callv 162 [.ref sh, .int id] (hp S) = some (some (.int (oI (fIdx os id))), hp S) := by
  show runv 162 0 [some (.ref sh), some (.int id), none] [] (hp S) = _
  simp only [s162_0, s162_1]
  rw [show (0 : Int32) = nI 0 from rfl, c_find_loop h os.length 0 (by omega), List.drop_zero]
  cases fIdx os id with
  | none => rfl
  | some j => simp only [Option.map_some, Nat.zero_add]
