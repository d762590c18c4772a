/-! the constructors, on any heap whose last cell is the new object -/
section HAT
variable {p q : vH} {t k a : Nat} {l : List Value} {v : Value} {K : Value → Option (Option Value × vH)} {K2 : vH → Option (Option Value × vH)}
theorem get_at (ha : p.length = a) {c : vC} : (p ++ c :: q)[a]? = some c := by
  subst ha
  rw [List.getElem?_append_right (Nat.le_refl _), Nat.sub_self]
  rfl
theorem set_at (ha : p.length = a) {c d : vC} : (p ++ c :: q).set a d = p ++ d :: q := by
  subst ha
  rw [List.set_append_right _ _ (Nat.le_refl _), Nat.sub_self]
  rfl
theorem vpf_at (ha : p.length = a) (hk : k < l.length) (hf : vfit t k v = true) : vpf (p ++ (t, l) :: q) a t k v K2 = K2 (p ++ (t, l.set k v) :: q) := by
  unfold vpf
  rw [get_at ha]
  simp only
  rw [if_pos ⟨trivial, hk, hf⟩, set_at ha]
theorem vgf_at (ha : p.length = a) (hv : l[k]? = some v) : vgf (p ++ (t, l) :: q) a t k K = K v := by
  unfold vgf
  rw [get_at ha]
  simp only [hv, if_true]
end HAT
def rowB (a n : Nat) : vH := [(1, [.ref (a + 1), .int 0]), (100, List.replicate n (.int 0))]
def idsB (a n : Nat) : vH := [(2, [.ref (a + 1), .int 0]), (100, List.replicate n (.int 0))]
def closB (a n : Nat) : vH := [(5, [.ref (a + 1), .ref (a + 2), .int 0]), (101, List.replicate n (.int 0)), (100, List.replicate n (.int 0))]
def itemB (a : Nat) : vH := (3, [.ref (a + 1), .int 0, .int 0]) :: rowB (a + 1) 24
section CTOR
variable {p : vH} {a n : Nat}
theorem c_ctRow (ha : p.length = a) (hn : n ≤ 1000) : callv 141 [.ref a, .int (nI n)] (p ++ [(1, vdef 1)]) = some (none, p ++ rowB a n) := by
  have c1 : ¬ nI n < 0 ∧ (nI n).toNatClampNeg ≤ 100000 := ⟨nI_pos (by omega), by rw [nI_clamp (by omega)]; omega⟩
  have f0 : vfit 1 0 (.ref (a + 1)) = true := vfit_arr rfl
  have f1 : vfit 1 1 (.int 0) = true := vfit_int rfl
  have hl : (p ++ [(1, vdef 1)]).length = a + 1 := by rw [List.length_append, ha]; rfl
  show runv 141 0 [some (.ref a), some (.int (nI n))] [] (p ++ [(1, vdef 1)]) = _
  simp only [s141_0, s141_1, s141_4, s141_5, s141_6, s141_8, s141_11, s141_12, s141_13, s141_16, List.length_cons, List.length_nil, Nat.reduceAdd, Nat.reduceLeDiff, Nat.zero_le, if_pos c1, hl]
  rw [List.append_assoc, List.singleton_append, vpf_at ha (by simp [vdef]) f0]
  rw [vpf_at ha (by simp [vdef]) f1, nI_clamp (by omega)]
  rfl
theorem c_ctIds (ha : p.length = a) (hn : n ≤ 1000) : callv 91 [.ref a, .int (nI n)] (p ++ [(2, vdef 2)]) = some (none, p ++ idsB a n) := by
  have c1 : ¬ nI n < 0 ∧ (nI n).toNatClampNeg ≤ 100000 := ⟨nI_pos (by omega), by rw [nI_clamp (by omega)]; omega⟩
  have f0 : vfit 2 0 (.ref (a + 1)) = true := vfit_arr rfl
  have f1 : vfit 2 1 (.int 0) = true := vfit_int rfl
  have hl : (p ++ [(2, vdef 2)]).length = a + 1 := by rw [List.length_append, ha]; rfl
  show runv 91 0 [some (.ref a), some (.int (nI n))] [] (p ++ [(2, vdef 2)]) = _
  simp only [s91_0, s91_1, s91_4, s91_5, s91_6, s91_8, s91_11, s91_12, s91_13, s91_16, List.length_cons, List.length_nil, Nat.reduceAdd, Nat.reduceLeDiff, Nat.zero_le, if_pos c1, hl]
  rw [List.append_assoc, List.singleton_append, vpf_at ha (by simp [vdef]) f0]
  rw [vpf_at ha (by simp [vdef]) f1, nI_clamp (by omega)]
  rfl
theorem c_ctClos (ha : p.length = a) (hn : n ≤ 1000) : callv 75 [.ref a, .int (nI n)] (p ++ [(5, vdef 5)]) = some (none, p ++ closB a n) := by
  have c1 : ¬ nI n < 0 ∧ (nI n).toNatClampNeg ≤ 100000 := ⟨nI_pos (by omega), by rw [nI_clamp (by omega)]; omega⟩
  have f0 : vfit 5 0 (.ref (a + 1)) = true := vfit_arr rfl
  have f1 : vfit 5 1 (.ref (a + 2)) = true := vfit_arr rfl
  have f2 : vfit 5 2 (.int 0) = true := vfit_int rfl
  have hl : (p ++ [(5, vdef 5)]).length = a + 1 := by rw [List.length_append, ha]; rfl
  have hl2 : ∀ x y : vC, (p ++ x :: [y]).length = a + 2 := fun x y => by rw [List.length_append, ha]; rfl
  show runv 75 0 [some (.ref a), some (.int (nI n))] [] (p ++ [(5, vdef 5)]) = _
  simp only [s75_0, s75_1, s75_4, s75_5, s75_6, List.length_cons, List.length_nil, Nat.reduceAdd, Nat.reduceLeDiff, Nat.zero_le, if_pos c1, hl]
  simp only [s75_8]
  rw [List.append_assoc, List.singleton_append, vpf_at ha (by simp [vdef]) f0]
  simp only [s75_11, s75_12, s75_13, if_pos c1, hl2]
  simp only [s75_15]
  rw [List.append_assoc, List.cons_append, List.singleton_append, vpf_at ha (by simp [vdef]) f1]
  simp only [s75_18, s75_19, s75_20]
  rw [vpf_at ha (by simp [vdef]) f2, nI_clamp (by omega)]
  simp only [s75_23]
  rfl
theorem c_ctItem (ha : p.length = a) : callv 96 [.ref a] (p ++ [(3, vdef 3)]) = some (none, p ++ itemB a) := by
  have f0 : vfit 3 0 (.ref (a + 1)) = true := vfit_obj rfl
  have hl : (p ++ [(3, vdef 3)]).length = a + 1 := by rw [List.length_append, ha]; rfl
  have c := c_ctRow (n := 24) hl (by omega)
  have n24 : (nI 24 : Int32) = 24 := rfl
  rw [n24] at c
  show runv 96 0 [some (.ref a)] [] (p ++ [(3, vdef 3)]) = _
  simp only [s96_0, s96_1, s96_4, s96_5, s96_8, r96_8, s96_9, s96_11, List.length_cons, List.length_nil, Nat.reduceAdd, Nat.reduceLeDiff, Nat.zero_le, hl, c, vbind_some, vpush_none]
  simp only [s96_14]
  rw [List.append_assoc, List.singleton_append, vpf_at ha (by simp [vdef]) f0]
  simp only [s96_17]
  rfl
def itsB (a : Nat) : Nat → vH
  | 0 => []
  | n + 1 => itsB a n ++ itemB (a + 3 * n)
theorem itsB_len (a : Nat) : ∀ n, (itsB a n).length = 3 * n := by
  intro n
  induction n with
  | zero => rfl
  | succ n ih =>
    show (itsB a n ++ itemB (a + 3 * n)).length = _
    rw [List.length_append, ih]
    show 3 * n + 3 = _
    omega
def shRef (a i n : Nat) : List Value := (List.range i).map (fun j => Value.ref (a + 3 * j)) ++ List.replicate (n - i) Value.null
def shelfB (a n : Nat) : vH := (4, [.ref (a + 1), .int 0]) :: (102, shRef (a + 2) n n) :: itsB (a + 2) n
theorem shRef_set {a i n : Nat} (hi : i < n) : (shRef a i n).set i (.ref (a + 3 * i)) = shRef a (i + 1) n := by
  unfold shRef
  have e1 : ((List.range i).map (fun j => Value.ref (a + 3 * j))).length = i := by simp
  rw [show n - i = (n - (i + 1)) + 1 by omega, List.replicate_succ, List.set_append_right _ _ (by omega), e1, Nat.sub_self, List.set_cons_zero, List.range_succ, List.map_append, List.append_assoc]
  rfl
theorem c_ctShelf_loop (ha : p.length = a) (hn : n ≤ 1000) : ∀ k i, i + k = n → runv 157 14 [some (.ref a), some (.int (nI n)), some (.int (nI i))] [] (p ++ (4, [.ref (a + 1), .int 0]) :: (102, shRef (a + 2) i n) :: itsB (a + 2) i) = some (none, p ++ shelfB a n) := by
  have f1 : vfit 4 1 (.int 0) = true := vfit_int rfl
  intro k
  induction k with
  | zero =>
    intro i hi
    have : i = n := by omega
    subst this
    rw [s157_14]
    simp only [s157_15, s157_16, s157_38, s157_39, s157_40]
    rw [if_pos (nI_le (Nat.le_refl _) (by omega)), vpf_at ha (by simp [vdef]) f1]
    simp only [s157_43]
    rfl
  | succ k ih =>
    intro i hi
    have hl : (p ++ (4, [.ref (a + 1), .int 0]) :: (102, shRef (a + 2) i n) :: itsB (a + 2) i).length = a + 2 + 3 * i := by
      rw [List.length_append, List.length_cons, List.length_cons, itsB_len, ha]
      omega
    have c := c_ctItem hl
    have nn : ¬ nI n ≤ nI i := nI_ge (by omega) (by omega)
    have hg : (p ++ (4, [.ref (a + 1), .int 0]) :: (102, shRef (a + 2) i n) :: (itsB (a + 2) i ++ itemB (a + 2 + 3 * i)))[a + 1]? = some (102, shRef (a + 2) i n) := by
      have : (p ++ (4, [.ref (a + 1), .int 0]) :: (102, shRef (a + 2) i n) :: (itsB (a + 2) i ++ itemB (a + 2 + 3 * i))) = (p ++ [(4, [.ref (a + 1), .int 0])]) ++ (102, shRef (a + 2) i n) :: (itsB (a + 2) i ++ itemB (a + 2 + 3 * i)) := by simp
      rw [this]
      exact get_at (by rw [List.length_append, ha]; rfl)
    have hs : ∀ d : vC, (p ++ (4, [.ref (a + 1), .int 0]) :: (102, shRef (a + 2) i n) :: (itsB (a + 2) i ++ itemB (a + 2 + 3 * i))).set (a + 1) d = p ++ (4, [.ref (a + 1), .int 0]) :: d :: (itsB (a + 2) i ++ itemB (a + 2 + 3 * i)) := fun d => by
      have : (p ++ (4, [.ref (a + 1), .int 0]) :: (102, shRef (a + 2) i n) :: (itsB (a + 2) i ++ itemB (a + 2 + 3 * i))) = (p ++ [(4, [.ref (a + 1), .int 0])]) ++ (102, shRef (a + 2) i n) :: (itsB (a + 2) i ++ itemB (a + 2 + 3 * i)) := by simp
      rw [this, set_at (by rw [List.length_append, ha]; rfl)]
      simp
    have hv : (p ++ (4, [.ref (a + 1), .int 0]) :: (102, shRef (a + 2) i n) :: (itsB (a + 2) i ++ itemB (a + 2 + 3 * i)))[a + 2 + 3 * i]? = some (3, [.ref (a + 2 + 3 * i + 1), .int 0, .int 0]) := by
      have : (p ++ (4, [.ref (a + 1), .int 0]) :: (102, shRef (a + 2) i n) :: (itsB (a + 2) i ++ itemB (a + 2 + 3 * i))) = (p ++ (4, [.ref (a + 1), .int 0]) :: (102, shRef (a + 2) i n) :: itsB (a + 2) i) ++ (3, [.ref (a + 2 + 3 * i + 1), .int 0, .int 0]) :: rowB (a + 2 + 3 * i + 1) 24 := by simp [itemB]
      rw [this]
      exact get_at hl
    have sl : (shRef (a + 2) i n).length = n := by unfold shRef; rw [List.length_append, List.length_map, List.length_range, List.length_replicate]; omega
    have hc : ((102 : Nat) = 102 ∨ (102 : Nat) = 103) ∧ (3 : Nat) = vcomp 102 ∧ ¬ nI i < 0 ∧ (nI i).toNatClampNeg < (shRef (a + 2) i n).length := ⟨Or.inl rfl, rfl, nI_pos (by omega), by rw [nI_clamp (by omega), sl]; omega⟩
    rw [s157_14]
    simp only [s157_15, s157_16, s157_19, if_neg nn]
    simp only [s157_20]
    rw [vgf_at ha (v := .ref (a + 1)) rfl]
    simp only [s157_23, s157_24, s157_27, r157_27, s157_28, List.length_cons, List.length_nil, Nat.reduceAdd, Nat.reduceLeDiff, Nat.zero_le, hl, c, vbind_some, vpush_none]
    rw [List.append_assoc, List.cons_append, List.cons_append, s157_31 hg hv hc, hs, nI_clamp (by omega), shRef_set (by omega)]
    simp only [s157_32, s157_35, nI_1]
    exact ih (i + 1) (by omega)
theorem c_ctShelf (ha : p.length = a) (hn : n ≤ 1000) : callv 157 [.ref a, .int (nI n)] (p ++ [(4, vdef 4)]) = some (none, p ++ shelfB a n) := by
  have c1 : ¬ nI n < 0 ∧ (nI n).toNatClampNeg ≤ 100000 := ⟨nI_pos (by omega), by rw [nI_clamp (by omega)]; omega⟩
  have f0 : vfit 4 0 (.ref (a + 1)) = true := vfit_arr rfl
  have hl : (p ++ [(4, vdef 4)]).length = a + 1 := by rw [List.length_append, ha]; rfl
  have e := c_ctShelf_loop ha hn n 0 (by omega)
  show runv 157 0 [some (.ref a), some (.int (nI n)), none] [] (p ++ [(4, vdef 4)]) = _
  simp only [s157_0, s157_1, s157_4, s157_5, s157_6, List.length_cons, List.length_nil, Nat.reduceAdd, Nat.reduceLeDiff, Nat.zero_le, if_pos c1, hl]
  simp only [s157_9]
  rw [List.append_assoc, List.singleton_append, vpf_at ha (by simp [vdef]) f0, nI_clamp (by omega)]
  simp only [s157_12, s157_13]
  exact e
def entB (a : Nat) : vH := (7, [.ref (a + 1), .ref (a + 3), .int 0, .int 0, .int 0, .int 0, .int 0]) :: (rowB (a + 1) 255 ++ itemB (a + 3))
theorem c_ctEntry (ha : p.length = a) : callv 87 [.ref a] (p ++ [(7, vdef 7)]) = some (none, p ++ entB a) := by
  have f0 : vfit 7 0 (.ref (a + 1)) = true := vfit_obj rfl
  have f1 : vfit 7 1 (.ref (a + 3)) = true := vfit_obj rfl
  have hl : (p ++ [(7, vdef 7)]).length = a + 1 := by rw [List.length_append, ha]; rfl
  have c := c_ctRow (n := 255) hl (by omega)
  have n255 : (nI 255 : Int32) = 255 := rfl
  rw [n255] at c
  have hl2 : ∀ x : vC, (p ++ x :: rowB (a + 1) 255).length = a + 3 := fun x => by rw [List.length_append, List.length_cons, ha]; rfl
  have c2 := fun x : vC => c_ctItem (hl2 x)
  show runv 87 0 [some (.ref a)] [] (p ++ [(7, vdef 7)]) = _
  simp only [s87_0, s87_1, s87_4, s87_5, s87_8, r87_8, s87_9, s87_12, List.length_cons, List.length_nil, Nat.reduceAdd, Nat.reduceLeDiff, Nat.zero_le, hl, c, vbind_some, vpush_none]
  simp only [s87_15]
  rw [List.append_assoc, List.singleton_append, vpf_at ha (by simp [vdef]) f0]
  simp only [s87_18, s87_19, s87_22, r87_22, s87_23, List.length_cons, List.length_nil, Nat.reduceAdd, Nat.reduceLeDiff, Nat.zero_le, hl2, c2, vbind_some, vpush_none]
  simp only [s87_26]
  rw [List.append_assoc, List.cons_append, vpf_at ha (by simp [vdef]) f1]
  simp only [s87_29]
  rfl
end CTOR
