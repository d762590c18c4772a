/-! rows of bytes, the rest -/
def bI (b : Bool) : Int32 := if b = true then 1 else 0
theorem bI_t : bI true = 1 := rfl
theorem bI_f : bI false = 0 := rfl
theorem bI_and (b : Bool) : bI b &&& 1 = bI b := by cases b <;> decide
theorem bI_0 (b : Bool) : (bI b = 0) = (b = false) := by cases b <;> simp [bI]
theorem if_bI {α : Type} (b : Bool) (x y : α) : (if bI b = 0 then x else y) = if b = true then y else x := by cases b <;> simp [bI]
theorem nI_inj {a b : Nat} (ha : a < 2 ^ 31) (hb : b < 2 ^ 31) : (nI a = nI b) = (a = b) := propext (nI_eq ha hb)
theorem getD_lt {bs : List Nat} (hb : ∀ x ∈ bs, x < 256) (i : Nat) : bs.getD i 0 < 256 := by
  rw [List.getD_eq_getElem?_getD]
  cases h : bs[i]? with
  | none => simp
  | some x => exact hb x (List.mem_of_getElem? h)
theorem drop_cons {bs : List Nat} {i : Nat} (h : i < bs.length) : bs.drop i = bs.getD i 0 :: bs.drop (i + 1) := by
  rw [List.drop_eq_getElem_cons h, List.getD_eq_getElem?_getD, List.getElem?_eq_getElem h]
  rfl
theorem c_replace {S : vSt} {r a N x : Nat} {p : Int32} {bs : List Nat} (hR : RowIs S r a N bs) : callv 151 [.ref r, .int p, .int (nI x)] (hp S) = if p < 0 then some (some (.int 0), hp S) else if p < nI bs.length then some (some (.int 1), hp (rowSet S r a (bs.set p.toNatClampNeg x))) else some (some (.int 0), hp S) := by
  have hR0 := hR
  obtain ⟨h1, h2, h3, h4, h5, h6⟩ := hR
  show runv 151 0 [some (.ref r), some (.int p), some (.int (nI x))] [] (hp S) = _
  simp only [s151_0, s151_1, s151_4, s151_5, s151_6, s151_9, s151_12, s151_13, s151_14, s151_15, s151_18, s151_19, s151_20, s151_21, s151_22, row0 h1, row1 h1, h2, vb0]
  by_cases hp0 : p < 0
  · rw [if_pos hp0, if_pos hp0]
  · rw [if_neg hp0, if_neg hp0]
    by_cases hp1 : p < nI bs.length
    · rw [if_pos hp1, if_pos hp1]
      obtain ⟨j, hj, rfl⟩ := nI_of hp0
      have hjl : j < bs.length := (nI_ltI hj (by omega)).mp hp1
      rw [rowst h1 (by omega) (by omega), nI_clamp hj]
      simp only [s151_0, s151_1, s151_4, s151_5, s151_6, s151_9, s151_12, s151_13, s151_14, s151_15, s151_18, s151_19, s151_20, s151_21, s151_22, vb1]
      congr 3
      have e1 : (S.2 a).set j (nI x) = (bs.set j x).map nI ++ (S.2 a).drop (bs.set j x).length := by
        have e2 : S.2 a = bs.map nI ++ (S.2 a).drop bs.length := by rw [← h4, List.take_append_drop]
        have e3 : (S.2 a).set j (nI x) = (bs.map nI ++ (S.2 a).drop bs.length).set j (nI x) := by rw [← e2]
        rw [e3, List.set_append_left _ _ (by simpa using hjl), List.length_set, List.map_set]
      rw [e1]
      simp only [rowSet, List.length_set]
      refine Prod.ext ?_ rfl
      funext b i
      simp only [au_1, fu]
      by_cases hb : b = r ∧ i = 1
      · rw [if_pos hb, hb.1, hb.2, h2]
      · rw [if_neg hb]
    · rw [if_neg hp1, if_neg hp1]
theorem c_shorten {S : vSt} {r a N : Nat} {p : Int32} {bs : List Nat} (hR : RowIs S r a N bs) : callv 152 [.ref r, .int p] (hp S) = if p < 0 then some (some (.int 0), hp S) else if p ≤ nI bs.length then some (some (.int 1), hp (rowSet S r a (bs.take p.toNatClampNeg))) else some (some (.int 0), hp S) := by
  have hR0 := hR
  obtain ⟨h1, h2, h3, h4, h5, h6⟩ := hR
  show runv 152 0 [some (.ref r), some (.int p)] [] (hp S) = _
  simp only [s152_0, s152_1, s152_4, s152_5, s152_6, s152_9, s152_12, s152_13, s152_14, s152_15, s152_16, s152_19, s152_20, row1 h1, h2, vb0, vb1, rowp h1]
  by_cases hp0 : p < 0
  · rw [if_pos hp0, if_pos hp0]
  · rw [if_neg hp0, if_neg hp0]
    by_cases hp1 : p ≤ nI bs.length
    · rw [if_pos hp1, if_pos hp1]
      obtain ⟨j, hj, rfl⟩ := nI_of hp0
      have hjl : j ≤ bs.length := (nI_leI hj (by omega)).mp hp1
      rw [nI_clamp hj]
      congr 3
      have e0 : (bs.take j).length = j := by simp; omega
      rw [rowSet, e0, au_self]
      rw [fu_2, List.map_take, ← h4, List.take_take, Nat.min_eq_left hjl, List.take_append_drop]
    · rw [if_neg hp1, if_neg hp1]
theorem c_isSame_loop {S : vSt} {r a N r' a' N' : Nat} {bs cs : List Nat} (hR : RowIs S r a N bs) (hR' : RowIs S r' a' N' cs) (hb : ∀ x ∈ bs, x < 256) (hc : ∀ x ∈ cs, x < 256) (hl : bs.length = cs.length) : ∀ k i, i + k = bs.length → runv 153 15 [some (.ref r), some (.ref r'), some (.int (nI i))] [] (hp S) = some (some (.int (bI (decide (bs.drop i = cs.drop i)))), hp S) := by
  have h5 := hR.2.2.2.2.1
  have h6 := hR.2.2.2.2.2
  have h3 := hR.2.2.1
  have g5 := hR'.2.2.2.2.1
  have g6 := hR'.2.2.2.2.2
  have g3 := hR'.2.2.1
  intro k
  induction k with
  | zero =>
    intro i hi
    rw [s153_15]
    simp only [s153_0, s153_1, s153_4, s153_5, s153_8, s153_11, s153_12, s153_13, s153_14, s153_16, s153_17, s153_20, s153_23, s153_24, s153_27, s153_28, s153_29, s153_30, s153_33, s153_34, s153_35, s153_38, s153_39, s153_40, s153_43, s153_46, s153_47, row1 hR.1, hR.2.1, vb1]
    rw [if_pos (nI_le (by omega) (by omega)), List.drop_of_length_le (by omega), List.drop_of_length_le (by omega)]
    rfl
  | succ k ih =>
    intro i hi
    rw [s153_15]
    simp only [s153_0, s153_1, s153_4, s153_5, s153_8, s153_11, s153_12, s153_13, s153_14, s153_16, s153_17, s153_20, s153_23, s153_24, s153_27, s153_28, s153_29, s153_30, s153_33, s153_34, s153_35, s153_38, s153_39, s153_40, s153_43, s153_46, s153_47, row1 hR.1, row0 hR.1, row0 hR'.1, hR.2.1, vb0]
    rw [if_neg (nI_ge (by omega) (by omega)), rowg hR.1 (by omega) (by omega), hR.get (by omega)]
    rw [rowg hR'.1 (by omega) (by omega), hR'.get (by omega)]
    have e1 := getD_lt hb i
    have e2 := getD_lt hc i
    simp only [s153_0, s153_1, s153_4, s153_5, s153_8, s153_11, s153_12, s153_13, s153_14, s153_16, s153_17, s153_20, s153_23, s153_24, s153_27, s153_28, s153_29, s153_30, s153_33, s153_34, s153_35, s153_38, s153_39, s153_40, s153_43, s153_46, s153_47, vb0, nI_inj (show bs.getD i 0 < 2 ^ 31 by omega) (show cs.getD i 0 < 2 ^ 31 by omega), nI_1]
    rw [ih (i + 1) (by omega), drop_cons (bs := bs) (i := i) (by omega), drop_cons (bs := cs) (i := i) (by omega)]
    by_cases he : bs.getD i 0 = cs.getD i 0
    · rw [if_pos he, he]
      simp
    · have hne : ¬ (bs.getD i 0 :: bs.drop (i + 1) = cs.getD i 0 :: cs.drop (i + 1)) := fun h => he (List.cons.inj h).1
      rw [if_neg he, decide_eq_false hne]
      rfl
theorem c_isSame {S : vSt} {r a N r' a' N' : Nat} {bs cs : List Nat} (hR : RowIs S r a N bs) (hR' : RowIs S r' a' N' cs) (hb : ∀ x ∈ bs, x < 256) (hc : ∀ x ∈ cs, x < 256) : callv 153 [.ref r, .ref r'] (hp S) = some (some (.int (bI (decide (bs = cs)))), hp S) := by
  have h5 := hR.2.2.2.2.1
  have h6 := hR.2.2.2.2.2
  have g5 := hR'.2.2.2.2.1
  have g6 := hR'.2.2.2.2.2
  show runv 153 0 [some (.ref r), some (.ref r'), none] [] (hp S) = _
  simp only [s153_0, s153_1, s153_4, s153_5, s153_8, s153_11, s153_12, s153_13, s153_14, row1 hR.1, row1 hR'.1, hR.2.1, hR'.2.1, vb0, nI_inj (show bs.length < 2 ^ 31 by omega) (show cs.length < 2 ^ 31 by omega)]
  by_cases he : bs.length = cs.length
  · rw [if_pos he]
    rw [show (0 : Int32) = nI 0 from rfl, c_isSame_loop hR hR' hb hc he bs.length 0 (by omega)]
    simp
  · rw [if_neg he]
    have : ¬ bs = cs := fun h => he (by rw [h])
    simp [this, bI]
def sameN (bs : List Nat) (p : Nat) : Nat := ((bs.drop p).takeWhile (fun x => x == bs.getD p 0)).length
theorem c_sameFrom_loop {S : vSt} {r a N p : Nat} {bs : List Nat} (hR : RowIs S r a N bs) (hb : ∀ x ∈ bs, x < 256) (hp0 : p < bs.length) : ∀ k e, e + k = bs.length → p ≤ e → runv 155 2 [some (.ref r), some (.int (nI p)), some (.int (nI e))] [] (hp S) = some (some (.int (nI (e - p + ((bs.drop e).takeWhile (fun x => x == bs.getD p 0)).length))), hp S) := by
  have h5 := hR.2.2.2.2.1
  have h6 := hR.2.2.2.2.2
  have h3 := hR.2.2.1
  intro k
  induction k with
  | zero =>
    intro e he hpe
    rw [s155_2]
    simp only [s155_0, s155_1, s155_3, s155_4, s155_7, s155_10, s155_11, s155_14, s155_15, s155_16, s155_17, s155_20, s155_21, s155_22, s155_25, s155_28, s155_31, s155_32, s155_33, s155_34, row1 hR.1, hR.2.1]
    rw [if_pos (nI_le (by omega) (by omega)), List.drop_of_length_le (by omega), pk_sub hpe]
    rfl
  | succ k ih =>
    intro e he hpe
    rw [s155_2]
    simp only [s155_0, s155_1, s155_3, s155_4, s155_7, s155_10, s155_11, s155_14, s155_15, s155_16, s155_17, s155_20, s155_21, s155_22, s155_25, s155_28, s155_31, s155_32, s155_33, s155_34, row1 hR.1, row0 hR.1, hR.2.1]
    rw [if_neg (nI_ge (by omega) (by omega)), rowg hR.1 (by omega) (by omega), hR.get (by omega)]
    rw [rowg hR.1 (by omega) (by omega), hR.get (by omega)]
    have e1 := getD_lt hb e
    have e2 := getD_lt hb p
    simp only [s155_0, s155_1, s155_3, s155_4, s155_7, s155_10, s155_11, s155_14, s155_15, s155_16, s155_17, s155_20, s155_21, s155_22, s155_25, s155_28, s155_31, s155_32, s155_33, s155_34, nI_inj (show bs.getD e 0 < 2 ^ 31 by omega) (show bs.getD p 0 < 2 ^ 31 by omega), nI_1]
    rw [ih (e + 1) (by omega) (by omega), drop_cons (bs := bs) (i := e) (by omega), List.takeWhile_cons]
    by_cases hq : bs.getD e 0 = bs.getD p 0
    · rw [if_pos hq, if_pos (by simp only [hq, beq_self_eq_true]), List.length_cons, show e + 1 - p + ((bs.drop (e + 1)).takeWhile (fun x => x == bs.getD p 0)).length = e - p + (((bs.drop (e + 1)).takeWhile (fun x => x == bs.getD p 0)).length + 1) by omega]
    · rw [if_neg hq, if_neg (by simp only [beq_iff_eq]; exact hq), pk_sub hpe]
      rfl
theorem c_sameFrom {S : vSt} {r a N p : Nat} {bs : List Nat} (hR : RowIs S r a N bs) (hb : ∀ x ∈ bs, x < 256) (hp0 : p < bs.length) : callv 155 [.ref r, .int (nI p)] (hp S) = some (some (.int (nI (sameN bs p))), hp S) := by
  show runv 155 0 [some (.ref r), some (.int (nI p)), none] [] (hp S) = _
  simp only [s155_0, s155_1]
  rw [c_sameFrom_loop hR hb hp0 (bs.length - p) p (by omega) (by omega)]
  simp only [Nat.sub_self, Nat.zero_add]
  rfl
def commN : List Nat → List Nat → Nat
  | x :: xs, y :: ys => if x = y then commN xs ys + 1 else 0
  | _, _ => 0
theorem commN_le (xs ys : List Nat) : commN xs ys ≤ xs.length ∧ commN xs ys ≤ ys.length := by
  induction xs generalizing ys with
  | nil => cases ys <;> simp [commN]
  | cons x xs ih =>
    cases ys with
    | nil => simp [commN]
    | cons y ys =>
      simp only [commN]
      split
      · have := ih ys
        simp only [List.length_cons]
        omega
      · simp
theorem c_commonFrom_loop {S : vSt} {r a N r' a' N' p q : Nat} {bs cs : List Nat} (hR : RowIs S r a N bs) (hR' : RowIs S r' a' N' cs) (hb : ∀ x ∈ bs, x < 256) (hc : ∀ x ∈ cs, x < 256) (hp0 : p ≤ bs.length) (hq0 : q ≤ cs.length) : ∀ k n, n + k = min (bs.length - p) (cs.length - q) → runv 156 20 [some (.ref r), some (.int (nI p)), some (.ref r'), some (.int (nI q)), some (.int (nI (min (bs.length - p) (cs.length - q)))), some (.int (nI n))] [] (hp S) = some (some (.int (nI (n + commN (bs.drop (p + n)) (cs.drop (q + n))))), hp S) := by
  have h5 := hR.2.2.2.2.1
  have h6 := hR.2.2.2.2.2
  have h3 := hR.2.2.1
  have g5 := hR'.2.2.2.2.1
  have g6 := hR'.2.2.2.2.2
  have g3 := hR'.2.2.1
  intro k
  induction k with
  | zero =>
    intro n hn
    rw [s156_20]
    simp only [s156_0, s156_1, s156_4, s156_5, s156_6, s156_7, s156_10, s156_11, s156_12, s156_15, s156_17, s156_18, s156_22, s156_24, s156_27, s156_28, s156_31, s156_32, s156_34, s156_35, s156_36, s156_37, s156_40, s156_41, s156_43, s156_44, s156_45, s156_48, s156_51, s156_54, s156_56]
    rw [if_pos (nI_le (by omega) (by omega))]
    have e : commN (bs.drop (p + n)) (cs.drop (q + n)) = 0 := by
      have := commN_le (bs.drop (p + n)) (cs.drop (q + n))
      simp only [List.length_drop] at this
      omega
    rw [e, Nat.add_zero]
  | succ k ih =>
    intro n hn
    rw [s156_20]
    simp only [s156_0, s156_1, s156_4, s156_5, s156_6, s156_7, s156_10, s156_11, s156_12, s156_15, s156_17, s156_18, s156_22, s156_24, s156_27, s156_28, s156_31, s156_32, s156_34, s156_35, s156_36, s156_37, s156_40, s156_41, s156_43, s156_44, s156_45, s156_48, s156_51, s156_54, s156_56, row0 hR.1, row0 hR'.1, nI_add]
    rw [if_neg (nI_ge (by omega) (by omega)), rowg hR.1 (by omega) (by omega), hR.get (by omega)]
    rw [rowg hR'.1 (by omega) (by omega), hR'.get (by omega)]
    have e1 := getD_lt hb (p + n)
    have e2 := getD_lt hc (q + n)
    simp only [s156_0, s156_1, s156_4, s156_5, s156_6, s156_7, s156_10, s156_11, s156_12, s156_15, s156_17, s156_18, s156_22, s156_24, s156_27, s156_28, s156_31, s156_32, s156_34, s156_35, s156_36, s156_37, s156_40, s156_41, s156_43, s156_44, s156_45, s156_48, s156_51, s156_54, s156_56, nI_inj (show bs.getD (p + n) 0 < 2 ^ 31 by omega) (show cs.getD (q + n) 0 < 2 ^ 31 by omega), nI_1]
    rw [ih (n + 1) (by omega), drop_cons (bs := bs) (i := p + n) (by omega), drop_cons (bs := cs) (i := q + n) (by omega)]
    simp only [commN]
    by_cases hq : bs.getD (p + n) 0 = cs.getD (q + n) 0
    · rw [if_pos hq, if_pos hq, show p + (n + 1) = p + n + 1 by omega, show q + (n + 1) = q + n + 1 by omega, show n + 1 + commN (bs.drop (p + n + 1)) (cs.drop (q + n + 1)) = n + (commN (bs.drop (p + n + 1)) (cs.drop (q + n + 1)) + 1) by omega]
    · rw [if_neg hq, if_neg hq, Nat.add_zero]
theorem c_commonFrom {S : vSt} {r a N r' a' N' p q : Nat} {bs cs : List Nat} (hR : RowIs S r a N bs) (hR' : RowIs S r' a' N' cs) (hb : ∀ x ∈ bs, x < 256) (hc : ∀ x ∈ cs, x < 256) (hp0 : p ≤ bs.length) (hq0 : q ≤ cs.length) : callv 156 [.ref r, .int (nI p), .ref r', .int (nI q)] (hp S) = some (some (.int (nI (commN (bs.drop p) (cs.drop q)))), hp S) := by
  have h5 := hR.2.2.2.2.1
  have h6 := hR.2.2.2.2.2
  have g5 := hR'.2.2.2.2.1
  have g6 := hR'.2.2.2.2.2
  show runv 156 0 [some (.ref r), some (.int (nI p)), some (.ref r'), some (.int (nI q)), none, none] [] (hp S) = _
  have emin : (if nI (cs.length - q) < nI (bs.length - p) then nI (cs.length - q) else nI (bs.length - p)) = nI (min (bs.length - p) (cs.length - q)) := by
    by_cases hlt : cs.length - q < bs.length - p
    · rw [if_pos (nI_lt hlt (by omega)), Nat.min_eq_right (by omega)]
    · rw [if_neg (nI_nlt (by omega) (by omega)), Nat.min_eq_left (by omega)]
  simp only [s156_0, s156_1, s156_4, s156_5, s156_6, s156_7, s156_10, s156_11, s156_12, s156_15, s156_17, s156_18, row1 hR.1, row1 hR'.1, hR.2.1, hR'.2.1, pk_sub hp0, pk_sub hq0, emin]
  rw [show (0 : Int32) = nI 0 from rfl, c_commonFrom_loop hR hR' hb hc hp0 hq0 (min (bs.length - p) (cs.length - q)) 0 (by omega)]
  simp only [Nat.zero_add, Nat.add_zero]
