/-! the constructors: writer, reader, the class, the reference -/
section CT2
variable {p q : vH} {a n : Nat}
theorem vlen2_at {l : List Value} {K : Value → Option (Option Value × vH)} (ha : p.length = a) : vlen2 (p ++ (100, l) :: q) a K = K (.int (nI l.length)) := by
  unfold vlen2
  rw [get_at ha]
  simp only
  rw [if_pos (by decide)]
  rfl
theorem vst2_at {l : List Value} {i : Nat} {v : Value} {K2 : vH → Option (Option Value × vH)} (ha : p.length = a) (hi : i < l.length) (hl : l.length ≤ 1000) : vst2 (p ++ (100, l) :: q) a 100 (nI i) v K2 = K2 (p ++ (100, l.set i v) :: q) := by
  unfold vst2
  rw [get_at ha]
  simp only
  rw [if_pos ⟨trivial, nI_pos (by omega), by rw [nI_clamp (by omega)]; exact hi⟩, set_at ha, nI_clamp (by omega)]
theorem rep_set {α : Type} {x y : α} {i n : Nat} (hi : i < n) : (List.replicate i y ++ List.replicate (n - i) x).set i y = List.replicate (i + 1) y ++ List.replicate (n - (i + 1)) x := by
  rw [show n - i = (n - (i + 1)) + 1 by omega, List.replicate_succ (n := n - (i + 1)), List.set_append_right _ _ (by rw [List.length_replicate]; exact Nat.le_refl _), List.length_replicate, Nat.sub_self, List.set_cons_zero, List.replicate_succ', List.append_assoc]
  rfl
theorem c_fill_loop {x : Int32} (ha : p.length = a) (hn : n ≤ 1000) : ∀ k i, i + k = n → runv 167 5 [some (.ref a), some (.int x), some (.int (nI i)), some (.int (nI n))] [] (p ++ (100, List.replicate i (Value.int x) ++ List.replicate (n - i) (Value.int 0)) :: q) = some (none, p ++ (100, List.replicate n (Value.int x)) :: q) := by
  intro k
  induction k with
  | zero =>
    intro i hi
    have : i = n := by omega
    subst this
    rw [s167_5]
    simp only [s167_6, s167_7, s167_20]
    rw [if_pos (nI_le (Nat.le_refl _) (by omega)), Nat.sub_self, List.replicate_zero, List.append_nil]
  | succ k ih =>
    intro i hi
    rw [s167_5]
    simp only [s167_6, s167_7, s167_10, s167_11, s167_12, s167_13]
    rw [if_neg (nI_ge (by omega) (by omega)), vst2_at ha (by rw [List.length_append, List.length_replicate, List.length_replicate]; omega) (by rw [List.length_append, List.length_replicate, List.length_replicate]; omega), rep_set (by omega)]
    simp only [s167_14, s167_17, nI_1]
    exact ih (i + 1) (by omega)
theorem c_fillA {x : Int32} (ha : p.length = a) (hn : n ≤ 1000) : callv 167 [.ref a, .int x] (p ++ (100, List.replicate n (Value.int 0)) :: q) = some (none, p ++ (100, List.replicate n (Value.int x)) :: q) := by
  have e := c_fill_loop (q := q) (x := x) ha hn n 0 (by omega)
  rw [List.replicate_zero, List.nil_append, Nat.sub_zero] at e
  show runv 167 0 [some (.ref a), some (.int x), none, none] [] (p ++ (100, List.replicate n (Value.int 0)) :: q) = _
  simp only [s167_0, s167_1, s167_2, s167_3]
  rw [vlen2_at ha, List.length_replicate]
  simp only [s167_4]
  exact e
def writerB (a sh bf : Nat) : vH := (6, [.ref sh, .ref bf, .ref (a + 1), .ref (a + 2), .int 0, .ref (a + 3), .ref (a + 5), .ref (a + 7)]) :: (((([] ++ [(100, List.replicate 16 (.int 0))]) ++ [(100, List.replicate 16 (.int 0))]) ++ rowB (a + 3) 64) ++ rowB (a + 5) 64) ++ rowB (a + 7) 64
theorem c_ctWriter {sh bf : Nat} (ha : p.length = a) : callv 131 [.ref a, .ref sh, .ref bf] (p ++ [(6, vdef 6)]) = some (none, p ++ writerB a sh bf) := by
  show runv 131 0 [some (.ref a), some (.ref sh), some (.ref bf)] [] (p ++ (6, vdef 6) :: []) = _
  have l0 : ([] : vH).length = 0 := rfl
  obtain ⟨T0, hT0⟩ : ∃ T : vH, T = [] := ⟨_, rfl⟩
  rw [← hT0] at l0
  have hh0 : p ++ (6, vdef 6) :: [] = p ++ (6, vdef 6) :: T0 := by rw [hT0]
  rw [hh0]
  simp only [s131_0, s131_1, s131_4, s131_5, List.length_cons, List.length_nil, Nat.reduceAdd, Nat.reduceLeDiff, Nat.zero_le]
  simp only [s131_6]
  rw [vpf_at ha (by simp [vdef]) (vfit_obj rfl)]
  simp only [s131_9, s131_10, List.length_cons, List.length_nil, Nat.reduceAdd, Nat.reduceLeDiff, Nat.zero_le]
  simp only [s131_11]
  rw [vpf_at ha (by simp [vdef]) (vfit_obj rfl)]
  have hl0 : ∀ c : vC, (p ++ c :: T0).length = a + 1 := fun c => by rw [List.length_append, List.length_cons, ha, l0]
  have c0 : ¬ (16 : Int32) < 0 ∧ (16 : Int32).toNatClampNeg ≤ 100000 := by decide
  have z0 : (16 : Int32).toNatClampNeg = 16 := by decide
  simp only [s131_14, s131_15, s131_17, List.length_cons, List.length_nil, Nat.reduceAdd, Nat.reduceLeDiff, Nat.zero_le, if_pos c0, hl0, z0]
  simp only [s131_19]
  rw [List.append_assoc, List.cons_append, vpf_at ha (by simp [vdef]) (vfit_arr rfl)]
  obtain ⟨T1, hT1⟩ : ∃ T : vH, T = T0 ++ [(100, List.replicate 16 (.int 0))] := ⟨_, rfl⟩
  have l1 : T1.length = 1 := by rw [hT1, List.length_append, l0]; rfl
  rw [← hT1]
  have hl1 : ∀ c : vC, (p ++ c :: T1).length = a + 2 := fun c => by rw [List.length_append, List.length_cons, ha, l1]
  have c1 : ¬ (16 : Int32) < 0 ∧ (16 : Int32).toNatClampNeg ≤ 100000 := by decide
  have z1 : (16 : Int32).toNatClampNeg = 16 := by decide
  simp only [s131_22, s131_23, s131_25, List.length_cons, List.length_nil, Nat.reduceAdd, Nat.reduceLeDiff, Nat.zero_le, if_pos c1, hl1, z1]
  simp only [s131_27]
  rw [List.append_assoc, List.cons_append, vpf_at ha (by simp [vdef]) (vfit_arr rfl)]
  obtain ⟨T2, hT2⟩ : ∃ T : vH, T = T1 ++ [(100, List.replicate 16 (.int 0))] := ⟨_, rfl⟩
  have l2 : T2.length = 2 := by rw [hT2, List.length_append, l1]; rfl
  rw [← hT2]
  simp only [s131_30, s131_31, List.length_cons, List.length_nil, Nat.reduceAdd, Nat.reduceLeDiff, Nat.zero_le]
  simp only [s131_32]
  rw [vpf_at ha (by simp [vdef]) (vfit_int rfl)]
  have hl2 : ∀ c : vC, (p ++ c :: T2).length = a + 3 := fun c => by rw [List.length_append, List.length_cons, ha, l2]
  have c2 : ∀ c : vC, callv 141 [.ref (a + 3), .int 64] ((p ++ c :: T2) ++ [(1, vdef 1)]) = some (none, (p ++ c :: T2) ++ rowB (a + 3) 64) := fun c => c_ctRow (n := 64) (hl2 c) (by omega)
  simp only [s131_35, s131_36, s131_39, r131_39, s131_40, s131_42, List.length_cons, List.length_nil, Nat.reduceAdd, Nat.reduceLeDiff, Nat.zero_le, hl2, c2, vbind_some, vpush_none]
  simp only [s131_45]
  rw [List.append_assoc, List.cons_append, vpf_at ha (by simp [vdef]) (vfit_obj rfl)]
  obtain ⟨T3, hT3⟩ : ∃ T : vH, T = T2 ++ rowB (a + 3) 64 := ⟨_, rfl⟩
  have l3 : T3.length = 4 := by rw [hT3, List.length_append, l2]; rfl
  rw [← hT3]
  have hl3 : ∀ c : vC, (p ++ c :: T3).length = a + 5 := fun c => by rw [List.length_append, List.length_cons, ha, l3]
  have c3 : ∀ c : vC, callv 141 [.ref (a + 5), .int 64] ((p ++ c :: T3) ++ [(1, vdef 1)]) = some (none, (p ++ c :: T3) ++ rowB (a + 5) 64) := fun c => c_ctRow (n := 64) (hl3 c) (by omega)
  simp only [s131_48, s131_49, s131_52, r131_52, s131_53, s131_55, List.length_cons, List.length_nil, Nat.reduceAdd, Nat.reduceLeDiff, Nat.zero_le, hl3, c3, vbind_some, vpush_none]
  simp only [s131_58]
  rw [List.append_assoc, List.cons_append, vpf_at ha (by simp [vdef]) (vfit_obj rfl)]
  obtain ⟨T4, hT4⟩ : ∃ T : vH, T = T3 ++ rowB (a + 5) 64 := ⟨_, rfl⟩
  have l4 : T4.length = 6 := by rw [hT4, List.length_append, l3]; rfl
  rw [← hT4]
  have hl4 : ∀ c : vC, (p ++ c :: T4).length = a + 7 := fun c => by rw [List.length_append, List.length_cons, ha, l4]
  have c4 : ∀ c : vC, callv 141 [.ref (a + 7), .int 64] ((p ++ c :: T4) ++ [(1, vdef 1)]) = some (none, (p ++ c :: T4) ++ rowB (a + 7) 64) := fun c => c_ctRow (n := 64) (hl4 c) (by omega)
  simp only [s131_61, s131_62, s131_65, r131_65, s131_66, s131_68, List.length_cons, List.length_nil, Nat.reduceAdd, Nat.reduceLeDiff, Nat.zero_le, hl4, c4, vbind_some, vpush_none]
  simp only [s131_71]
  rw [List.append_assoc, List.cons_append, vpf_at ha (by simp [vdef]) (vfit_obj rfl)]
  obtain ⟨T5, hT5⟩ : ∃ T : vH, T = T4 ++ rowB (a + 7) 64 := ⟨_, rfl⟩
  have l5 : T5.length = 8 := by rw [hT5, List.length_append, l4]; rfl
  rw [← hT5]
  simp only [s131_74]
  subst hT5
  subst hT4
  subst hT3
  subst hT2
  subst hT1
  subst hT0
  rfl
theorem shelfB_len (a n : Nat) : (shelfB a n).length = 2 + 3 * n := by
  unfold shelfB
  rw [List.length_cons, List.length_cons, itsB_len]
  omega
theorem entB_len (a : Nat) : (entB a).length = 6 := rfl
def entsB (a : Nat) : Nat → vH
  | 0 => []
  | n + 1 => entsB a n ++ entB (a + 6 * n)
theorem entsB_len (a : Nat) : ∀ n, (entsB a n).length = 6 * n := by
  intro n
  induction n with
  | zero => rfl
  | succ n ih =>
    show (entsB a n ++ entB (a + 6 * n)).length = _
    rw [List.length_append, ih, entB_len]
    omega
def enRef (a i n : Nat) : List Value := (List.range i).map (fun j => Value.ref (a + 6 * j)) ++ List.replicate (n - i) Value.null
theorem enRef_set {a i n : Nat} (hi : i < n) : (enRef a i n).set i (.ref (a + 6 * i)) = enRef a (i + 1) n := by
  unfold enRef
  have e1 : ((List.range i).map (fun j => Value.ref (a + 6 * j))).length = i := by simp
  rw [show n - i = (n - (i + 1)) + 1 by omega, List.replicate_succ, List.set_append_right _ _ (by omega), e1, Nat.sub_self, List.set_cons_zero, List.range_succ, List.map_append, List.append_assoc]
  rfl
def readerB (a bf cl : Nat) : vH := (8, [.ref bf, .ref cl, .ref (a + 1), .int 0, .int 0, .int 0]) :: (103, enRef (a + 2) 16 16) :: entsB (a + 2) 16
theorem readerB_len (a bf cl : Nat) : (readerB a bf cl).length = 98 := by
  unfold readerB
  rw [List.length_cons, List.length_cons, entsB_len]
theorem c_ctReader_loop {bf cl : Nat} {w1 w2 : Option Value} (ha : p.length = a) : ∀ k i, i + k = 16 → runv 109 25 [some (.ref a), w1, w2, some (.int (nI i))] [] (p ++ (8, [.ref bf, .ref cl, .ref (a + 1), .int 0, .int 0, .int 0]) :: (103, enRef (a + 2) i 16) :: entsB (a + 2) i) = some (none, p ++ readerB a bf cl) := by
  intro k
  induction k with
  | zero =>
    intro i hi
    have : i = 16 := by omega
    subst this
    rw [s109_25]
    simp only [s109_26, s109_28, s109_50, s109_51, s109_52]
    rw [if_pos (show (16 : Int32) ≤ nI 16 by decide), vpf_at ha (by simp) (vfit_int rfl)]
    simp only [s109_55, s109_56, s109_57]
    rw [vpf_at ha (by simp) (vfit_int rfl)]
    simp only [s109_60, s109_61, s109_62]
    rw [vpf_at ha (by simp) (vfit_int rfl)]
    simp only [s109_65]
    rfl
  | succ k ih =>
    intro i hi
    obtain ⟨F, hF⟩ : ∃ F : List Value, F = [.ref bf, .ref cl, .ref (a + 1), .int 0, .int 0, .int 0] := ⟨_, rfl⟩
    have hF2 : F[2]? = some (.ref (a + 1)) := by rw [hF]; rfl
    rw [← hF] at ih ⊢
    have hl : (p ++ (8, F) :: (103, enRef (a + 2) i 16) :: entsB (a + 2) i).length = a + 2 + 6 * i := by
      rw [List.length_append, List.length_cons, List.length_cons, entsB_len, ha]
      omega
    have c := c_ctEntry hl
    have nn : ¬ (16 : Int32) ≤ nI i := nI_ge (b := 16) (by omega) (by omega)
    have hg : (p ++ (8, F) :: (103, enRef (a + 2) i 16) :: (entsB (a + 2) i ++ entB (a + 2 + 6 * i)))[a + 1]? = some (103, enRef (a + 2) i 16) := by
      have : (p ++ (8, F) :: (103, enRef (a + 2) i 16) :: (entsB (a + 2) i ++ entB (a + 2 + 6 * i))) = (p ++ [(8, F)]) ++ (103, enRef (a + 2) i 16) :: (entsB (a + 2) i ++ entB (a + 2 + 6 * i)) := by simp
      rw [this]
      exact get_at (by rw [List.length_append, ha]; rfl)
    have hs : ∀ d : vC, (p ++ (8, F) :: (103, enRef (a + 2) i 16) :: (entsB (a + 2) i ++ entB (a + 2 + 6 * i))).set (a + 1) d = p ++ (8, F) :: d :: (entsB (a + 2) i ++ entB (a + 2 + 6 * i)) := fun d => by
      have : (p ++ (8, F) :: (103, enRef (a + 2) i 16) :: (entsB (a + 2) i ++ entB (a + 2 + 6 * i))) = (p ++ [(8, F)]) ++ (103, enRef (a + 2) i 16) :: (entsB (a + 2) i ++ entB (a + 2 + 6 * i)) := by simp
      rw [this, set_at (by rw [List.length_append, ha]; rfl)]
      simp
    have hv : (p ++ (8, F) :: (103, enRef (a + 2) i 16) :: (entsB (a + 2) i ++ entB (a + 2 + 6 * i)))[a + 2 + 6 * i]? = some (7, [.ref (a + 2 + 6 * i + 1), .ref (a + 2 + 6 * i + 3), .int 0, .int 0, .int 0, .int 0, .int 0]) := by
      have : (p ++ (8, F) :: (103, enRef (a + 2) i 16) :: (entsB (a + 2) i ++ entB (a + 2 + 6 * i))) = (p ++ (8, F) :: (103, enRef (a + 2) i 16) :: entsB (a + 2) i) ++ (7, [.ref (a + 2 + 6 * i + 1), .ref (a + 2 + 6 * i + 3), .int 0, .int 0, .int 0, .int 0, .int 0]) :: (rowB (a + 2 + 6 * i + 1) 255 ++ itemB (a + 2 + 6 * i + 3)) := by simp [entB]
      rw [this]
      exact get_at hl
    have sl : (enRef (a + 2) i 16).length = 16 := by unfold enRef; rw [List.length_append, List.length_map, List.length_range, List.length_replicate]; omega
    have hc : ((103 : Nat) = 102 ∨ (103 : Nat) = 103) ∧ (7 : Nat) = vcomp 103 ∧ ¬ nI i < 0 ∧ (nI i).toNatClampNeg < (enRef (a + 2) i 16).length := ⟨Or.inr rfl, rfl, nI_pos (by omega), by rw [nI_clamp (by omega), sl]; omega⟩
    rw [s109_25]
    simp only [s109_26, s109_28, s109_31, if_neg nn]
    simp only [s109_32]
    rw [vgf_at ha hF2]
    simp only [s109_35, s109_36, s109_39, r109_39, s109_40, List.length_cons, List.length_nil, Nat.reduceAdd, Nat.reduceLeDiff, Nat.zero_le, hl, c, vbind_some, vpush_none]
    rw [List.append_assoc, List.cons_append, List.cons_append, s109_43 hg hv hc, hs, nI_clamp (by omega), enRef_set (by omega)]
    simp only [s109_44, s109_47, nI_1]
    exact ih (i + 1) (by omega)
theorem c_ctReader {bf cl : Nat} (ha : p.length = a) : callv 109 [.ref a, .ref bf, .ref cl] (p ++ [(8, vdef 8)]) = some (none, p ++ readerB a bf cl) := by
  have e := c_ctReader_loop (bf := bf) (cl := cl) (w1 := some (.ref bf)) (w2 := some (.ref cl)) ha 16 0 (by omega)
  have hl : ∀ c : vC, (p ++ c :: []).length = a + 1 := fun c => by rw [List.length_append, ha]; rfl
  have c1 : ¬ (16 : Int32) < 0 ∧ (16 : Int32).toNatClampNeg ≤ 100000 := by decide
  have z1 : (16 : Int32).toNatClampNeg = 16 := by decide
  show runv 109 0 [some (.ref a), some (.ref bf), some (.ref cl), none] [] (p ++ (8, vdef 8) :: []) = _
  simp only [s109_0, s109_1, s109_4, s109_5, n109_5, List.length_cons, List.length_nil, Nat.reduceAdd, Nat.reduceLeDiff, Nat.zero_le]
  simp only [s109_6]
  rw [vpf_at ha (by simp [vdef]) (vfit_obj rfl)]
  simp only [s109_9, s109_10, n109_10]
  simp only [s109_11]
  rw [vpf_at ha (by simp [vdef]) (vfit_obj rfl)]
  simp only [s109_14, s109_15, s109_17, if_pos c1, hl, z1]
  simp only [s109_20]
  rw [List.append_assoc, List.singleton_append, vpf_at ha (by simp [vdef]) (vfit_arr rfl)]
  simp only [s109_23, s109_24]
  exact e
def psB (a : Nat) : vH := (0, [.ref (a + 1), .ref (a + 3), .ref (a + 53), .ref (a + 127), .ref (a + 130), .ref (a + 131), .ref (a + 133), .ref (a + 135), .ref (a + 138), .ref (a + 141), .ref (a + 150)]) :: (((((((((([] ++ rowB (a + 1) 500) ++ shelfB (a + 3) 16) ++ shelfB (a + 53) 24) ++ itemB (a + 127)) ++ [(100, List.replicate 4 (.int (-1)))]) ++ idsB (a + 131) 16) ++ idsB (a + 133) 8) ++ closB (a + 135) 24) ++ closB (a + 138) 16) ++ writerB (a + 141) (a + 3) (a + 1)) ++ readerB (a + 150) (a + 1) (a + 53)
theorem c_ctStore (ha : p.length = a) : callv 0 [.ref a] (p ++ [(0, vdef 0)]) = some (none, p ++ psB a) := by
  show runv 0 0 [some (.ref a)] [] (p ++ (0, vdef 0) :: []) = _
  have l0 : ([] : vH).length = 0 := rfl
  obtain ⟨T0, hT0⟩ : ∃ T : vH, T = [] := ⟨_, rfl⟩
  rw [← hT0] at l0
  have hh0 : p ++ (0, vdef 0) :: [] = p ++ (0, vdef 0) :: T0 := by rw [hT0]
  rw [hh0]
  have hl0 : ∀ c : vC, (p ++ c :: T0).length = a + 1 := fun c => by rw [List.length_append, List.length_cons, ha, l0]
  have c0 : ∀ c : vC, callv 141 [.ref (a + 1), .int 500] ((p ++ c :: T0) ++ [(1, vdef 1)]) = some (none, (p ++ c :: T0) ++ rowB (a + 1) 500) := fun c => c_ctRow (n := 500) (hl0 c) (by omega)
  simp only [s0_0, s0_1, s0_4, s0_5, s0_8, r0_8, s0_9, s0_12, List.length_cons, List.length_nil, Nat.reduceAdd, Nat.reduceLeDiff, Nat.zero_le, hl0, c0, vbind_some, vpush_none]
  simp only [s0_15]
  rw [List.append_assoc, List.cons_append, vpf_at ha (by simp [vdef]) (vfit_obj rfl)]
  obtain ⟨T1, hT1⟩ : ∃ T : vH, T = T0 ++ rowB (a + 1) 500 := ⟨_, rfl⟩
  have l1 : T1.length = 2 := by rw [hT1, List.length_append, l0]; rfl
  rw [← hT1]
  have hl1 : ∀ c : vC, (p ++ c :: T1).length = a + 3 := fun c => by rw [List.length_append, List.length_cons, ha, l1]
  have c1 : ∀ c : vC, callv 157 [.ref (a + 3), .int 16] ((p ++ c :: T1) ++ [(4, vdef 4)]) = some (none, (p ++ c :: T1) ++ shelfB (a + 3) 16) := fun c => c_ctShelf (n := 16) (hl1 c) (by omega)
  simp only [s0_18, s0_19, s0_22, r0_22, s0_23, s0_25, List.length_cons, List.length_nil, Nat.reduceAdd, Nat.reduceLeDiff, Nat.zero_le, hl1, c1, vbind_some, vpush_none]
  simp only [s0_28]
  rw [List.append_assoc, List.cons_append, vpf_at ha (by simp [vdef]) (vfit_obj rfl)]
  obtain ⟨T2, hT2⟩ : ∃ T : vH, T = T1 ++ shelfB (a + 3) 16 := ⟨_, rfl⟩
  have l2 : T2.length = 52 := by rw [hT2, List.length_append, l1]; rw [shelfB_len]
  rw [← hT2]
  have hl2 : ∀ c : vC, (p ++ c :: T2).length = a + 53 := fun c => by rw [List.length_append, List.length_cons, ha, l2]
  have c2 : ∀ c : vC, callv 157 [.ref (a + 53), .int 24] ((p ++ c :: T2) ++ [(4, vdef 4)]) = some (none, (p ++ c :: T2) ++ shelfB (a + 53) 24) := fun c => c_ctShelf (n := 24) (hl2 c) (by omega)
  simp only [s0_31, s0_32, s0_35, r0_35, s0_36, s0_38, List.length_cons, List.length_nil, Nat.reduceAdd, Nat.reduceLeDiff, Nat.zero_le, hl2, c2, vbind_some, vpush_none]
  simp only [s0_41]
  rw [List.append_assoc, List.cons_append, vpf_at ha (by simp [vdef]) (vfit_obj rfl)]
  obtain ⟨T3, hT3⟩ : ∃ T : vH, T = T2 ++ shelfB (a + 53) 24 := ⟨_, rfl⟩
  have l3 : T3.length = 126 := by rw [hT3, List.length_append, l2]; rw [shelfB_len]
  rw [← hT3]
  have hl3 : ∀ c : vC, (p ++ c :: T3).length = a + 127 := fun c => by rw [List.length_append, List.length_cons, ha, l3]
  have c3 : ∀ c : vC, callv 96 [.ref (a + 127)] ((p ++ c :: T3) ++ [(3, vdef 3)]) = some (none, (p ++ c :: T3) ++ itemB (a + 127)) := fun c => c_ctItem (hl3 c)
  simp only [s0_44, s0_45, s0_48, r0_48, s0_49, List.length_cons, List.length_nil, Nat.reduceAdd, Nat.reduceLeDiff, Nat.zero_le, hl3, c3, vbind_some, vpush_none]
  simp only [s0_52]
  rw [List.append_assoc, List.cons_append, vpf_at ha (by simp [vdef]) (vfit_obj rfl)]
  obtain ⟨T4, hT4⟩ : ∃ T : vH, T = T3 ++ itemB (a + 127) := ⟨_, rfl⟩
  have l4 : T4.length = 129 := by rw [hT4, List.length_append, l3]; rfl
  rw [← hT4]
  have hl4 : ∀ c : vC, (p ++ c :: T4).length = a + 130 := fun c => by rw [List.length_append, List.length_cons, ha, l4]
  have c4 : ¬ (4 : Int32) < 0 ∧ (4 : Int32).toNatClampNeg ≤ 100000 := by decide
  have z4 : (4 : Int32).toNatClampNeg = 4 := by decide
  simp only [s0_55, s0_56, s0_57, List.length_cons, List.length_nil, Nat.reduceAdd, Nat.reduceLeDiff, Nat.zero_le, if_pos c4, hl4, z4]
  simp only [s0_59]
  rw [List.append_assoc, List.cons_append, vpf_at ha (by simp [vdef]) (vfit_arr rfl)]
  obtain ⟨T5, hT5⟩ : ∃ T : vH, T = T4 ++ [(100, List.replicate 4 (.int 0))] := ⟨_, rfl⟩
  have l5 : T5.length = 130 := by rw [hT5, List.length_append, l4]; rfl
  rw [← hT5]
  simp only [s0_62]
  simp only [s0_63]
  rw [vgf_at ha (v := .ref (a + 130)) rfl]
  have hlf : ∀ c : vC, (p ++ c :: T4).length = a + 130 := fun c => by rw [List.length_append, List.length_cons, ha, l4]
  have cf : ∀ c : vC, callv 167 [.ref (a + 130), .int (-1)] (p ++ c :: T5) = some (none, p ++ c :: (T4 ++ [(100, List.replicate 4 (.int (-1)))])) := fun c => by
    have e := c_fillA (q := []) (n := 4) (x := -1) (hlf c) (by omega)
    rw [hT5]
    have e1 : p ++ c :: (T4 ++ [(100, List.replicate 4 (Value.int 0))]) = (p ++ c :: T4) ++ (100, List.replicate 4 (Value.int 0)) :: [] := by simp
    have e2 : p ++ c :: (T4 ++ [(100, List.replicate 4 (Value.int (-1)))]) = (p ++ c :: T4) ++ (100, List.replicate 4 (Value.int (-1))) :: [] := by simp
    rw [e1, e2]
    exact e
  simp only [s0_66, s0_67, List.length_cons, List.length_nil, Nat.reduceAdd, Nat.reduceLeDiff, Nat.zero_le, cf, vbind_some, vpush_none]
  clear hT5 l5 cf
  clear T5
  obtain ⟨T5, hT5⟩ : ∃ T : vH, T = T4 ++ [(100, List.replicate 4 (.int (-1)))] := ⟨_, rfl⟩
  have l5 : T5.length = 130 := by rw [hT5, List.length_append, l4]; rfl
  rw [← hT5]
  have hl5 : ∀ c : vC, (p ++ c :: T5).length = a + 131 := fun c => by rw [List.length_append, List.length_cons, ha, l5]
  have c5 : ∀ c : vC, callv 91 [.ref (a + 131), .int 16] ((p ++ c :: T5) ++ [(2, vdef 2)]) = some (none, (p ++ c :: T5) ++ idsB (a + 131) 16) := fun c => c_ctIds (n := 16) (hl5 c) (by omega)
  simp only [s0_70, s0_71, s0_74, r0_74, s0_75, s0_77, List.length_cons, List.length_nil, Nat.reduceAdd, Nat.reduceLeDiff, Nat.zero_le, hl5, c5, vbind_some, vpush_none]
  simp only [s0_80]
  rw [List.append_assoc, List.cons_append, vpf_at ha (by simp [vdef]) (vfit_obj rfl)]
  obtain ⟨T6, hT6⟩ : ∃ T : vH, T = T5 ++ idsB (a + 131) 16 := ⟨_, rfl⟩
  have l6 : T6.length = 132 := by rw [hT6, List.length_append, l5]; rfl
  rw [← hT6]
  have hl6 : ∀ c : vC, (p ++ c :: T6).length = a + 133 := fun c => by rw [List.length_append, List.length_cons, ha, l6]
  have c6 : ∀ c : vC, callv 91 [.ref (a + 133), .int 8] ((p ++ c :: T6) ++ [(2, vdef 2)]) = some (none, (p ++ c :: T6) ++ idsB (a + 133) 8) := fun c => c_ctIds (n := 8) (hl6 c) (by omega)
  simp only [s0_83, s0_84, s0_87, r0_87, s0_88, s0_90, List.length_cons, List.length_nil, Nat.reduceAdd, Nat.reduceLeDiff, Nat.zero_le, hl6, c6, vbind_some, vpush_none]
  simp only [s0_93]
  rw [List.append_assoc, List.cons_append, vpf_at ha (by simp [vdef]) (vfit_obj rfl)]
  obtain ⟨T7, hT7⟩ : ∃ T : vH, T = T6 ++ idsB (a + 133) 8 := ⟨_, rfl⟩
  have l7 : T7.length = 134 := by rw [hT7, List.length_append, l6]; rfl
  rw [← hT7]
  have hl7 : ∀ c : vC, (p ++ c :: T7).length = a + 135 := fun c => by rw [List.length_append, List.length_cons, ha, l7]
  have c7 : ∀ c : vC, callv 75 [.ref (a + 135), .int 24] ((p ++ c :: T7) ++ [(5, vdef 5)]) = some (none, (p ++ c :: T7) ++ closB (a + 135) 24) := fun c => c_ctClos (n := 24) (hl7 c) (by omega)
  simp only [s0_96, s0_97, s0_100, r0_100, s0_101, s0_103, List.length_cons, List.length_nil, Nat.reduceAdd, Nat.reduceLeDiff, Nat.zero_le, hl7, c7, vbind_some, vpush_none]
  simp only [s0_106]
  rw [List.append_assoc, List.cons_append, vpf_at ha (by simp [vdef]) (vfit_obj rfl)]
  obtain ⟨T8, hT8⟩ : ∃ T : vH, T = T7 ++ closB (a + 135) 24 := ⟨_, rfl⟩
  have l8 : T8.length = 137 := by rw [hT8, List.length_append, l7]; rfl
  rw [← hT8]
  have hl8 : ∀ c : vC, (p ++ c :: T8).length = a + 138 := fun c => by rw [List.length_append, List.length_cons, ha, l8]
  have c8 : ∀ c : vC, callv 75 [.ref (a + 138), .int 16] ((p ++ c :: T8) ++ [(5, vdef 5)]) = some (none, (p ++ c :: T8) ++ closB (a + 138) 16) := fun c => c_ctClos (n := 16) (hl8 c) (by omega)
  simp only [s0_109, s0_110, s0_113, r0_113, s0_114, s0_116, List.length_cons, List.length_nil, Nat.reduceAdd, Nat.reduceLeDiff, Nat.zero_le, hl8, c8, vbind_some, vpush_none]
  simp only [s0_119]
  rw [List.append_assoc, List.cons_append, vpf_at ha (by simp [vdef]) (vfit_obj rfl)]
  obtain ⟨T9, hT9⟩ : ∃ T : vH, T = T8 ++ closB (a + 138) 16 := ⟨_, rfl⟩
  have l9 : T9.length = 140 := by rw [hT9, List.length_append, l8]; rfl
  rw [← hT9]
  have g1 : ∀ (c d : vC) (K : Value → Option (Option Value × vH)), True := fun _ _ _ => trivial
  have hl9w : ∀ c : vC, (p ++ c :: T9).length = a + 141 := fun c => by rw [List.length_append, List.length_cons, ha, l9]
  have c9w : ∀ c : vC, callv 131 [.ref (a + 141), .ref (a + 3), .ref (a + 1)] ((p ++ c :: T9) ++ [(6, vdef 6)]) = some (none, (p ++ c :: T9) ++ writerB (a + 141) (a + 3) (a + 1)) := fun c => c_ctWriter (hl9w c)
  simp only [s0_122, s0_123, s0_126, r0_126, s0_127, hl9w]
  simp only [s0_128]
  rw [List.append_assoc, List.cons_append, vgf_at ha (v := .ref (a + 3)) rfl]
  simp only [s0_131]
  simp only [s0_132]
  rw [vgf_at ha (v := .ref (a + 1)) rfl, ← List.cons_append, ← List.append_assoc]
  simp only [s0_135, List.length_cons, List.length_nil, Nat.reduceAdd, Nat.reduceLeDiff, Nat.zero_le, c9w, vbind_some, vpush_none]
  simp only [s0_138]
  rw [List.append_assoc, List.cons_append, vpf_at ha (by simp [vdef]) (vfit_obj rfl)]
  obtain ⟨T10, hT10⟩ : ∃ T : vH, T = T9 ++ writerB (a + 141) (a + 3) (a + 1) := ⟨_, rfl⟩
  have l10 : T10.length = 149 := by rw [hT10, List.length_append, l9]; rfl
  rw [← hT10]
  have hl10w : ∀ c : vC, (p ++ c :: T10).length = a + 150 := fun c => by rw [List.length_append, List.length_cons, ha, l10]
  have c10w : ∀ c : vC, callv 109 [.ref (a + 150), .ref (a + 1), .ref (a + 53)] ((p ++ c :: T10) ++ [(8, vdef 8)]) = some (none, (p ++ c :: T10) ++ readerB (a + 150) (a + 1) (a + 53)) := fun c => c_ctReader (hl10w c)
  simp only [s0_141, s0_142, s0_145, r0_145, s0_146, hl10w]
  simp only [s0_147]
  rw [List.append_assoc, List.cons_append, vgf_at ha (v := .ref (a + 1)) rfl]
  simp only [s0_150]
  simp only [s0_151]
  rw [vgf_at ha (v := .ref (a + 53)) rfl, ← List.cons_append, ← List.append_assoc]
  simp only [s0_154, List.length_cons, List.length_nil, Nat.reduceAdd, Nat.reduceLeDiff, Nat.zero_le, c10w, vbind_some, vpush_none]
  simp only [s0_157]
  rw [List.append_assoc, List.cons_append, vpf_at ha (by simp [vdef]) (vfit_obj rfl)]
  simp only [s0_160]
  subst hT10
  subst hT9
  subst hT8
  subst hT7
  subst hT6
  subst hT5
  subst hT4
  subst hT3
  subst hT2
  subst hT1
  subst hT0
  rfl
def mdB (a : Nat) : vH := (9, [.ref (a + 1), .int 0, .ref (a + 2), .ref (a + 3), .ref (a + 4), .ref (a + 5), .ref (a + 6), .int 0, .ref (a + 7), .ref (a + 8), .int 0, .int 0, .ref (a + 9), .int 0, .ref (a + 10), .ref (a + 11), .int 0, .ref (a + 12), .int 0, .int 0, .ref (a + 13), .ref (a + 14), .ref (a + 15), .ref (a + 16), .ref (a + 17)]) :: ((((((((((((((((([] ++ [(100, List.replicate 640 (.int 0))]) ++ [(100, List.replicate 2 (.int 0))]) ++ [(100, List.replicate 57 (.int 0))]) ++ [(100, List.replicate 57 (.int 0))]) ++ [(100, List.replicate 1368 (.int 0))]) ++ [(101, List.replicate 40 (.int 0))]) ++ [(100, List.replicate 4 (.int (-1)))]) ++ [(101, List.replicate 16 (.int 0))]) ++ [(100, List.replicate 8 (.int 0))]) ++ [(100, List.replicate 16 (.int 0))]) ++ [(100, List.replicate 16 (.int 0))]) ++ [(100, List.replicate 256 (.int 0))]) ++ [(100, List.replicate 16 (.int 0))]) ++ [(100, List.replicate 16 (.int 0))]) ++ [(100, List.replicate 16 (.int 0))]) ++ [(100, List.replicate 4096 (.int 0))]) ++ [(101, List.replicate 16 (.int 0))])
theorem c_mdl_loop {F : List Value} {T6 U : vH} (ha : p.length = a) (hF : F[8]? = some (.ref (a + 7))) (l6 : T6.length = 6) : ∀ k i, i + k = 4 → runv 23 144 [some (.ref a), some (.int (nI i))] [] (p ++ (9, F) :: (T6 ++ (100, List.replicate i (Value.int (-1)) ++ List.replicate (4 - i) (Value.int 0)) :: U)) = some (none, p ++ (9, F) :: (T6 ++ (100, List.replicate 4 (Value.int (-1))) :: U)) := by
  have hl : (p ++ (9, F) :: T6).length = a + 7 := by rw [List.length_append, List.length_cons, ha, l6]
  have rs : ∀ c : vC, p ++ (9, F) :: (T6 ++ c :: U) = (p ++ (9, F) :: T6) ++ c :: U := fun c => by simp
  intro k
  induction k with
  | zero =>
    intro i hi
    have : i = 4 := by omega
    subst this
    rw [s23_144]
    simp only [s23_145, s23_146, s23_162]
    rw [if_pos (show (4 : Int32) ≤ nI 4 by decide)]
    rfl
  | succ k ih =>
    intro i hi
    rw [s23_144]
    simp only [s23_145, s23_146, s23_149]
    simp only [s23_150]
    rw [if_neg (show ¬ (4 : Int32) ≤ nI i from nI_ge (b := 4) (by omega) (by omega)), vgf_at ha hF, rs]
    simp only [s23_153, s23_154, s23_155]
    rw [vst2_at hl (by rw [List.length_append, List.length_replicate, List.length_replicate]; omega) (by rw [List.length_append, List.length_replicate, List.length_replicate]; omega), rep_set (by omega), ← rs]
    simp only [s23_156, s23_159, nI_1]
    exact ih (i + 1) (by omega)
theorem c_ctModel (ha : p.length = a) : callv 23 [.ref a] (p ++ [(9, vdef 9)]) = some (none, p ++ mdB a) := by
  show runv 23 0 [some (.ref a), none] [] (p ++ (9, vdef 9) :: []) = _
  have l0 : ([] : vH).length = 0 := rfl
  obtain ⟨T0, hT0⟩ : ∃ T : vH, T = [] := ⟨_, rfl⟩
  rw [← hT0] at l0
  have hh0 : p ++ (9, vdef 9) :: [] = p ++ (9, vdef 9) :: T0 := by rw [hT0]
  rw [hh0]
  have hl0 : ∀ c : vC, (p ++ c :: T0).length = a + 1 := fun c => by rw [List.length_append, List.length_cons, ha, l0]
  have c0 : ¬ (640 : Int32) < 0 ∧ (640 : Int32).toNatClampNeg ≤ 100000 := by decide
  have z0 : (640 : Int32).toNatClampNeg = 640 := by decide
  simp only [s23_0, s23_1, s23_4, s23_5, s23_8, List.length_cons, List.length_nil, Nat.reduceAdd, Nat.reduceLeDiff, Nat.zero_le, if_pos c0, hl0, z0]
  simp only [s23_10]
  rw [List.append_assoc, List.cons_append, vpf_at ha (by first | decide | (simp only [List.length_set]; decide)) (vfit_arr rfl)]
  obtain ⟨T1, hT1⟩ : ∃ T : vH, T = T0 ++ [(100, List.replicate 640 (.int 0))] := ⟨_, rfl⟩
  have l1 : T1.length = 1 := by rw [hT1, List.length_append, l0]; rfl
  rw [← hT1]
  have hl1 : ∀ c : vC, (p ++ c :: T1).length = a + 2 := fun c => by rw [List.length_append, List.length_cons, ha, l1]
  have c1 : ¬ (2 : Int32) < 0 ∧ (2 : Int32).toNatClampNeg ≤ 100000 := by decide
  have z1 : (2 : Int32).toNatClampNeg = 2 := by decide
  simp only [s23_13, s23_14, s23_15, List.length_cons, List.length_nil, Nat.reduceAdd, Nat.reduceLeDiff, Nat.zero_le, if_pos c1, hl1, z1]
  simp only [s23_17]
  rw [List.append_assoc, List.cons_append, vpf_at ha (by first | decide | (simp only [List.length_set]; decide)) (vfit_arr rfl)]
  obtain ⟨T2, hT2⟩ : ∃ T : vH, T = T1 ++ [(100, List.replicate 2 (.int 0))] := ⟨_, rfl⟩
  have l2 : T2.length = 2 := by rw [hT2, List.length_append, l1]; rfl
  rw [← hT2]
  have hl2 : ∀ c : vC, (p ++ c :: T2).length = a + 3 := fun c => by rw [List.length_append, List.length_cons, ha, l2]
  have c2 : ¬ (57 : Int32) < 0 ∧ (57 : Int32).toNatClampNeg ≤ 100000 := by decide
  have z2 : (57 : Int32).toNatClampNeg = 57 := by decide
  simp only [s23_20, s23_21, s23_23, List.length_cons, List.length_nil, Nat.reduceAdd, Nat.reduceLeDiff, Nat.zero_le, if_pos c2, hl2, z2]
  simp only [s23_25]
  rw [List.append_assoc, List.cons_append, vpf_at ha (by first | decide | (simp only [List.length_set]; decide)) (vfit_arr rfl)]
  obtain ⟨T3, hT3⟩ : ∃ T : vH, T = T2 ++ [(100, List.replicate 57 (.int 0))] := ⟨_, rfl⟩
  have l3 : T3.length = 3 := by rw [hT3, List.length_append, l2]; rfl
  rw [← hT3]
  have hl3 : ∀ c : vC, (p ++ c :: T3).length = a + 4 := fun c => by rw [List.length_append, List.length_cons, ha, l3]
  have c3 : ¬ (57 : Int32) < 0 ∧ (57 : Int32).toNatClampNeg ≤ 100000 := by decide
  have z3 : (57 : Int32).toNatClampNeg = 57 := by decide
  simp only [s23_28, s23_29, s23_31, List.length_cons, List.length_nil, Nat.reduceAdd, Nat.reduceLeDiff, Nat.zero_le, if_pos c3, hl3, z3]
  simp only [s23_33]
  rw [List.append_assoc, List.cons_append, vpf_at ha (by first | decide | (simp only [List.length_set]; decide)) (vfit_arr rfl)]
  obtain ⟨T4, hT4⟩ : ∃ T : vH, T = T3 ++ [(100, List.replicate 57 (.int 0))] := ⟨_, rfl⟩
  have l4 : T4.length = 4 := by rw [hT4, List.length_append, l3]; rfl
  rw [← hT4]
  have hl4 : ∀ c : vC, (p ++ c :: T4).length = a + 5 := fun c => by rw [List.length_append, List.length_cons, ha, l4]
  have c4 : ¬ (1368 : Int32) < 0 ∧ (1368 : Int32).toNatClampNeg ≤ 100000 := by decide
  have z4 : (1368 : Int32).toNatClampNeg = 1368 := by decide
  simp only [s23_36, s23_37, s23_40, List.length_cons, List.length_nil, Nat.reduceAdd, Nat.reduceLeDiff, Nat.zero_le, if_pos c4, hl4, z4]
  simp only [s23_42]
  rw [List.append_assoc, List.cons_append, vpf_at ha (by first | decide | (simp only [List.length_set]; decide)) (vfit_arr rfl)]
  obtain ⟨T5, hT5⟩ : ∃ T : vH, T = T4 ++ [(100, List.replicate 1368 (.int 0))] := ⟨_, rfl⟩
  have l5 : T5.length = 5 := by rw [hT5, List.length_append, l4]; rfl
  rw [← hT5]
  have hl5 : ∀ c : vC, (p ++ c :: T5).length = a + 6 := fun c => by rw [List.length_append, List.length_cons, ha, l5]
  have c5 : ¬ (40 : Int32) < 0 ∧ (40 : Int32).toNatClampNeg ≤ 100000 := by decide
  have z5 : (40 : Int32).toNatClampNeg = 40 := by decide
  simp only [s23_45, s23_46, s23_48, List.length_cons, List.length_nil, Nat.reduceAdd, Nat.reduceLeDiff, Nat.zero_le, if_pos c5, hl5, z5]
  simp only [s23_50]
  rw [List.append_assoc, List.cons_append, vpf_at ha (by first | decide | (simp only [List.length_set]; decide)) (vfit_arr rfl)]
  obtain ⟨T6, hT6⟩ : ∃ T : vH, T = T5 ++ [(101, List.replicate 40 (.int 0))] := ⟨_, rfl⟩
  have l6 : T6.length = 6 := by rw [hT6, List.length_append, l5]; rfl
  rw [← hT6]
  have hl6 : ∀ c : vC, (p ++ c :: T6).length = a + 7 := fun c => by rw [List.length_append, List.length_cons, ha, l6]
  have c6 : ¬ (4 : Int32) < 0 ∧ (4 : Int32).toNatClampNeg ≤ 100000 := by decide
  have z6 : (4 : Int32).toNatClampNeg = 4 := by decide
  simp only [s23_53, s23_54, s23_55, List.length_cons, List.length_nil, Nat.reduceAdd, Nat.reduceLeDiff, Nat.zero_le, if_pos c6, hl6, z6]
  simp only [s23_57]
  rw [List.append_assoc, List.cons_append, vpf_at ha (by first | decide | (simp only [List.length_set]; decide)) (vfit_arr rfl)]
  obtain ⟨T7, hT7⟩ : ∃ T : vH, T = T6 ++ [(100, List.replicate 4 (.int 0))] := ⟨_, rfl⟩
  have l7 : T7.length = 7 := by rw [hT7, List.length_append, l6]; rfl
  rw [← hT7]
  have hl7 : ∀ c : vC, (p ++ c :: T7).length = a + 8 := fun c => by rw [List.length_append, List.length_cons, ha, l7]
  have c7 : ¬ (16 : Int32) < 0 ∧ (16 : Int32).toNatClampNeg ≤ 100000 := by decide
  have z7 : (16 : Int32).toNatClampNeg = 16 := by decide
  simp only [s23_60, s23_61, s23_63, List.length_cons, List.length_nil, Nat.reduceAdd, Nat.reduceLeDiff, Nat.zero_le, if_pos c7, hl7, z7]
  simp only [s23_65]
  rw [List.append_assoc, List.cons_append, vpf_at ha (by first | decide | (simp only [List.length_set]; decide)) (vfit_arr rfl)]
  obtain ⟨T8, hT8⟩ : ∃ T : vH, T = T7 ++ [(101, List.replicate 16 (.int 0))] := ⟨_, rfl⟩
  have l8 : T8.length = 8 := by rw [hT8, List.length_append, l7]; rfl
  rw [← hT8]
  have hl8 : ∀ c : vC, (p ++ c :: T8).length = a + 9 := fun c => by rw [List.length_append, List.length_cons, ha, l8]
  have c8 : ¬ (8 : Int32) < 0 ∧ (8 : Int32).toNatClampNeg ≤ 100000 := by decide
  have z8 : (8 : Int32).toNatClampNeg = 8 := by decide
  simp only [s23_68, s23_69, s23_71, List.length_cons, List.length_nil, Nat.reduceAdd, Nat.reduceLeDiff, Nat.zero_le, if_pos c8, hl8, z8]
  simp only [s23_73]
  rw [List.append_assoc, List.cons_append, vpf_at ha (by first | decide | (simp only [List.length_set]; decide)) (vfit_arr rfl)]
  obtain ⟨T9, hT9⟩ : ∃ T : vH, T = T8 ++ [(100, List.replicate 8 (.int 0))] := ⟨_, rfl⟩
  have l9 : T9.length = 9 := by rw [hT9, List.length_append, l8]; rfl
  rw [← hT9]
  have hl9 : ∀ c : vC, (p ++ c :: T9).length = a + 10 := fun c => by rw [List.length_append, List.length_cons, ha, l9]
  have c9 : ¬ (16 : Int32) < 0 ∧ (16 : Int32).toNatClampNeg ≤ 100000 := by decide
  have z9 : (16 : Int32).toNatClampNeg = 16 := by decide
  simp only [s23_76, s23_77, s23_79, List.length_cons, List.length_nil, Nat.reduceAdd, Nat.reduceLeDiff, Nat.zero_le, if_pos c9, hl9, z9]
  simp only [s23_81]
  rw [List.append_assoc, List.cons_append, vpf_at ha (by first | decide | (simp only [List.length_set]; decide)) (vfit_arr rfl)]
  obtain ⟨T10, hT10⟩ : ∃ T : vH, T = T9 ++ [(100, List.replicate 16 (.int 0))] := ⟨_, rfl⟩
  have l10 : T10.length = 10 := by rw [hT10, List.length_append, l9]; rfl
  rw [← hT10]
  have hl10 : ∀ c : vC, (p ++ c :: T10).length = a + 11 := fun c => by rw [List.length_append, List.length_cons, ha, l10]
  have c10 : ¬ (16 : Int32) < 0 ∧ (16 : Int32).toNatClampNeg ≤ 100000 := by decide
  have z10 : (16 : Int32).toNatClampNeg = 16 := by decide
  simp only [s23_84, s23_85, s23_87, List.length_cons, List.length_nil, Nat.reduceAdd, Nat.reduceLeDiff, Nat.zero_le, if_pos c10, hl10, z10]
  simp only [s23_89]
  rw [List.append_assoc, List.cons_append, vpf_at ha (by first | decide | (simp only [List.length_set]; decide)) (vfit_arr rfl)]
  obtain ⟨T11, hT11⟩ : ∃ T : vH, T = T10 ++ [(100, List.replicate 16 (.int 0))] := ⟨_, rfl⟩
  have l11 : T11.length = 11 := by rw [hT11, List.length_append, l10]; rfl
  rw [← hT11]
  have hl11 : ∀ c : vC, (p ++ c :: T11).length = a + 12 := fun c => by rw [List.length_append, List.length_cons, ha, l11]
  have c11 : ¬ (256 : Int32) < 0 ∧ (256 : Int32).toNatClampNeg ≤ 100000 := by decide
  have z11 : (256 : Int32).toNatClampNeg = 256 := by decide
  simp only [s23_92, s23_93, s23_96, List.length_cons, List.length_nil, Nat.reduceAdd, Nat.reduceLeDiff, Nat.zero_le, if_pos c11, hl11, z11]
  simp only [s23_98]
  rw [List.append_assoc, List.cons_append, vpf_at ha (by first | decide | (simp only [List.length_set]; decide)) (vfit_arr rfl)]
  obtain ⟨T12, hT12⟩ : ∃ T : vH, T = T11 ++ [(100, List.replicate 256 (.int 0))] := ⟨_, rfl⟩
  have l12 : T12.length = 12 := by rw [hT12, List.length_append, l11]; rfl
  rw [← hT12]
  have hl12 : ∀ c : vC, (p ++ c :: T12).length = a + 13 := fun c => by rw [List.length_append, List.length_cons, ha, l12]
  have c12 : ¬ (16 : Int32) < 0 ∧ (16 : Int32).toNatClampNeg ≤ 100000 := by decide
  have z12 : (16 : Int32).toNatClampNeg = 16 := by decide
  simp only [s23_101, s23_102, s23_104, List.length_cons, List.length_nil, Nat.reduceAdd, Nat.reduceLeDiff, Nat.zero_le, if_pos c12, hl12, z12]
  simp only [s23_106]
  rw [List.append_assoc, List.cons_append, vpf_at ha (by first | decide | (simp only [List.length_set]; decide)) (vfit_arr rfl)]
  obtain ⟨T13, hT13⟩ : ∃ T : vH, T = T12 ++ [(100, List.replicate 16 (.int 0))] := ⟨_, rfl⟩
  have l13 : T13.length = 13 := by rw [hT13, List.length_append, l12]; rfl
  rw [← hT13]
  have hl13 : ∀ c : vC, (p ++ c :: T13).length = a + 14 := fun c => by rw [List.length_append, List.length_cons, ha, l13]
  have c13 : ¬ (16 : Int32) < 0 ∧ (16 : Int32).toNatClampNeg ≤ 100000 := by decide
  have z13 : (16 : Int32).toNatClampNeg = 16 := by decide
  simp only [s23_109, s23_110, s23_112, List.length_cons, List.length_nil, Nat.reduceAdd, Nat.reduceLeDiff, Nat.zero_le, if_pos c13, hl13, z13]
  simp only [s23_114]
  rw [List.append_assoc, List.cons_append, vpf_at ha (by first | decide | (simp only [List.length_set]; decide)) (vfit_arr rfl)]
  obtain ⟨T14, hT14⟩ : ∃ T : vH, T = T13 ++ [(100, List.replicate 16 (.int 0))] := ⟨_, rfl⟩
  have l14 : T14.length = 14 := by rw [hT14, List.length_append, l13]; rfl
  rw [← hT14]
  have hl14 : ∀ c : vC, (p ++ c :: T14).length = a + 15 := fun c => by rw [List.length_append, List.length_cons, ha, l14]
  have c14 : ¬ (16 : Int32) < 0 ∧ (16 : Int32).toNatClampNeg ≤ 100000 := by decide
  have z14 : (16 : Int32).toNatClampNeg = 16 := by decide
  simp only [s23_117, s23_118, s23_120, List.length_cons, List.length_nil, Nat.reduceAdd, Nat.reduceLeDiff, Nat.zero_le, if_pos c14, hl14, z14]
  simp only [s23_122]
  rw [List.append_assoc, List.cons_append, vpf_at ha (by first | decide | (simp only [List.length_set]; decide)) (vfit_arr rfl)]
  obtain ⟨T15, hT15⟩ : ∃ T : vH, T = T14 ++ [(100, List.replicate 16 (.int 0))] := ⟨_, rfl⟩
  have l15 : T15.length = 15 := by rw [hT15, List.length_append, l14]; rfl
  rw [← hT15]
  have hl15 : ∀ c : vC, (p ++ c :: T15).length = a + 16 := fun c => by rw [List.length_append, List.length_cons, ha, l15]
  have c15 : ¬ (4096 : Int32) < 0 ∧ (4096 : Int32).toNatClampNeg ≤ 100000 := by decide
  have z15 : (4096 : Int32).toNatClampNeg = 4096 := by decide
  simp only [s23_125, s23_126, s23_129, List.length_cons, List.length_nil, Nat.reduceAdd, Nat.reduceLeDiff, Nat.zero_le, if_pos c15, hl15, z15]
  simp only [s23_131]
  rw [List.append_assoc, List.cons_append, vpf_at ha (by first | decide | (simp only [List.length_set]; decide)) (vfit_arr rfl)]
  obtain ⟨T16, hT16⟩ : ∃ T : vH, T = T15 ++ [(100, List.replicate 4096 (.int 0))] := ⟨_, rfl⟩
  have l16 : T16.length = 16 := by rw [hT16, List.length_append, l15]; rfl
  rw [← hT16]
  have hl16 : ∀ c : vC, (p ++ c :: T16).length = a + 17 := fun c => by rw [List.length_append, List.length_cons, ha, l16]
  have c16 : ¬ (16 : Int32) < 0 ∧ (16 : Int32).toNatClampNeg ≤ 100000 := by decide
  have z16 : (16 : Int32).toNatClampNeg = 16 := by decide
  simp only [s23_134, s23_135, s23_137, List.length_cons, List.length_nil, Nat.reduceAdd, Nat.reduceLeDiff, Nat.zero_le, if_pos c16, hl16, z16]
  simp only [s23_139]
  rw [List.append_assoc, List.cons_append, vpf_at ha (by first | decide | (simp only [List.length_set]; decide)) (vfit_arr rfl)]
  obtain ⟨T17, hT17⟩ : ∃ T : vH, T = T16 ++ [(101, List.replicate 16 (.int 0))] := ⟨_, rfl⟩
  have l17 : T17.length = 17 := by rw [hT17, List.length_append, l16]; rfl
  rw [← hT17]
  simp only [s23_142, s23_143]
  obtain ⟨U, hU⟩ : ∃ U : vH, U = (101, List.replicate 16 (.int 0)) :: (100, List.replicate 8 (.int 0)) :: (100, List.replicate 16 (.int 0)) :: (100, List.replicate 16 (.int 0)) :: (100, List.replicate 256 (.int 0)) :: (100, List.replicate 16 (.int 0)) :: (100, List.replicate 16 (.int 0)) :: (100, List.replicate 16 (.int 0)) :: (100, List.replicate 4096 (.int 0)) :: (101, List.replicate 16 (.int 0)) :: [] := ⟨_, rfl⟩
  have hX : T17 = T6 ++ (100, List.replicate 0 (Value.int (-1)) ++ List.replicate (4 - 0) (Value.int 0)) :: U := by
    rw [hT17, hT16, hT15, hT14, hT13, hT12, hT11, hT10, hT9, hT8, hT7, hU]
    simp only [List.append_assoc, List.singleton_append, List.cons_append, List.replicate_zero, List.nil_append, Nat.sub_zero]
  rw [hX]
  refine (c_mdl_loop ha (by simp [vdef]) l6 4 0 (by omega)).trans ?_
  clear hX hT17 hT16 hT15 hT14 hT13 hT12 hT11 hT10 hT9 hT8 hT7
  subst hU
  subst hT6
  subst hT5
  subst hT4
  subst hT3
  subst hT2
  subst hT1
  subst hT0
  simp only [mdB, vdef, List.set_cons_zero, List.set_cons_succ, List.append_assoc, List.nil_append, List.singleton_append, List.cons_append]
end CT2
