/-! closures: include -/
def mkN (os : List Obj) (o : Obj) : Nat → Nat → List Nat → Bool × List Nat
  | 0, _, ms => (true, ms)
  | k + 1, i, ms => match nmd os o i with
    | none => (false, ms)
    | some j => mkN os o k (i + 1) (ins ms j)
def Out (c : Nat) (S S1 : vSt) : Prop := ∀ lo hi, (c + 3 ≤ lo ∨ hi ≤ c) → Agr S S1 lo hi
theorem Out.rf {c : Nat} {S : vSt} : Out c S S := fun _ _ _ => Agr.rf
theorem Out.tr {c : Nat} {S S1 S2 : vSt} (h : Out c S S1) (h2 : Out c S1 S2) : Out c S S2 := fun lo hi g => (h lo hi g).tr (h2 lo hi g)
theorem nmd_lt {os : List Obj} {o : Obj} {i j : Nat} (h : nmd os o i = some j) : j < os.length := by
  unfold nmd at h
  split at h
  · rename_i j2 hj2
    have := fIdx_lt hj2
    split at h
    · cases h; exact this
    · cases h
  · cases h
theorem ins_mem {ms : List Nat} {j x : Nat} : x ∈ ins ms j ↔ x ∈ ms ∨ x = j := by
  unfold ins
  split
  · rename_i hm
    constructor
    · exact Or.inl
    · rintro (h | rfl)
      · exact h
      · exact hm
  · rw [List.mem_append, List.mem_singleton]
theorem mkN_lt {os : List Obj} {o : Obj} {n : Nat} (hn : os.length ≤ n) : ∀ k i ms, (∀ j ∈ ms, j < n) → ∀ j ∈ (mkN os o k i ms).2, j < n := by
  intro k
  induction k with
  | zero => intro i ms h; exact h
  | succ k ih =>
    intro i ms h
    unfold mkN
    split
    · exact h
    · rename_i j hj
      refine ih (i + 1) (ins ms j) ?_
      intro x hx
      rcases ins_mem.mp hx with q | rfl
      · exact h x q
      · have := nmd_lt hj
        omega
theorem c_markNamed_loop {sh cap c N p : Nat} {o : Obj} {os : List Obj} (hsep : c + 3 ≤ sh ∨ sh + 2 + 3 * cap ≤ c) (hcN : cap ≤ N) (hp0 : os[p]? = some o) : ∀ k i ms S w, i + k = nmN o.1 o.2.length → ShelfIs S sh cap os → ClosIs S c N ms → ∃ S1, runv 80 2 [some (.ref c), some (.ref sh), some (.ref (sh + 2 + 3 * p)), some (.int (nI i)), w] [] (hp S) = some (some (.int (bI (mkN os o k i ms).1)), hp S1) ∧ ClosIs S1 c N (mkN os o k i ms).2 ∧ Out c S S1 := by
  intro k
  induction k with
  | zero =>
    intro i ms S w hi hS hC
    have hit := hS.2.2.2.1 p o hp0
    have b7 := hit.2.1.2.2.2.2.1
    have hN : nmN o.1 o.2.length ≤ 24 := by
      unfold nmN
      split
      · omega
      · split <;> omega
    have t1 := itt (S := S) hit.1
    refine ⟨S, ?_, hC, Out.rf⟩
    rw [s80_2]
    simp only [s80_0, s80_1, s80_3, s80_4, s80_7, s80_10, s80_11, s80_12, s80_13, s80_16, s80_18, s80_20, s80_23, s80_24, s80_25, s80_26, s80_28, s80_31, s80_34, s80_37, s80_38, List.length_cons, List.length_nil, Nat.reduceAdd, Nat.reduceLeDiff, Nat.zero_le, t1, c_namedItems hit, vbind_some, vpush_some, vb1]
    rw [if_pos (nI_le (by omega) (by omega))]
    rfl
  | succ k ih =>
    intro i ms S w hi hS hC
    have hit := hS.2.2.2.1 p o hp0
    have b7 := hit.2.1.2.2.2.2.1
    have hN : nmN o.1 o.2.length ≤ 24 := by
      unfold nmN
      split
      · omega
      · split <;> omega
    have t1 := itt (S := S) hit.1
    have t2 := sht (S := S) hS.1
    have t3 := clt (S := S) hC.1
    have e := c_findNamed hS hit (i := i) (by omega)
    have hcap := hS.1.2.2.2
    rw [s80_2]
    simp only [s80_0, s80_1, s80_3, s80_4, s80_7, s80_10, s80_11, s80_12, s80_13, s80_16, s80_18, s80_20, s80_23, s80_24, s80_25, s80_26, s80_28, s80_31, s80_34, s80_37, s80_38, List.length_cons, List.length_nil, Nat.reduceAdd, Nat.reduceLeDiff, Nat.zero_le, t1, t2, t3, c_namedItems hit, vbind_some, vpush_some, vb0, e, nI_1]
    rw [if_neg (nI_ge (by omega) (by omega))]
    simp only [mkN]
    cases hm : nmd os o i with
    | none =>
      rw [if_neg (show ¬ 0 ≤ oI none by decide)]
      exact ⟨S, rfl, hC, Out.rf⟩
    | some j =>
      have hj := nmd_lt hm
      have hle := hS.2.1
      rw [if_pos (show 0 ≤ oI (some j) from nI_pos' (by omega)), show oI (some j) = nI j from rfl, c_mark hC (by omega)]
      simp only [s80_0, s80_1, s80_3, s80_4, s80_7, s80_10, s80_11, s80_12, s80_13, s80_16, s80_18, s80_20, s80_23, s80_24, s80_25, s80_26, s80_28, s80_31, s80_34, s80_37, s80_38, vbind_some, vpush_none, nI_1]
      have hO : Out c S (closPut S c ms j) := fun lo hi g => closPut_agr g
      obtain ⟨S1, g1, g2, g3⟩ := ih (i + 1) (ins ms j) (closPut S c ms j) (some (.int (nI j))) (by omega) (hS.agr (hO _ _ (by omega))) (hC.put (by omega))
      exact ⟨S1, g1, g2, hO.tr g3⟩
theorem c_markNamed {S : vSt} {sh cap c N p : Nat} {o : Obj} {os : List Obj} {ms : List Nat} (hsep : c + 3 ≤ sh ∨ sh + 2 + 3 * cap ≤ c) (hcN : cap ≤ N) (hp0 : os[p]? = some o) (hS : ShelfIs S sh cap os) (hC : ClosIs S c N ms) : ∃ S1, callv 80 [.ref c, .ref sh, .ref (sh + 2 + 3 * p)] (hp S) = some (some (.int (bI (mkN os o (nmN o.1 o.2.length) 0 ms).1)), hp S1) ∧ ClosIs S1 c N (mkN os o (nmN o.1 o.2.length) 0 ms).2 ∧ Out c S S1 := by
  obtain ⟨S1, g1, g2, g3⟩ := c_markNamed_loop hsep hcN hp0 (nmN o.1 o.2.length) 0 ms S none (by omega) hS hC
  refine ⟨S1, ?_, g2, g3⟩
  show runv 80 0 [some (.ref c), some (.ref sh), some (.ref (sh + 2 + 3 * p)), none, none] [] (hp S) = _
  simp only [s80_0, s80_1]
  exact g1
def oAt (os : List Obj) (j : Nat) : Obj := os.getD j (0, [])
def bfs (os : List Obj) : Nat → Nat → List Nat → Bool × List Nat
  | 0, _, ms => (true, ms)
  | n + 1, i, ms => if i < ms.length then
      if (mkN os (oAt os (ms.getD i 0)) (nmN (oAt os (ms.getD i 0)).1 (oAt os (ms.getD i 0)).2.length) 0 ms).1 = true then bfs os n (i + 1) (mkN os (oAt os (ms.getD i 0)) (nmN (oAt os (ms.getD i 0)).1 (oAt os (ms.getD i 0)).2.length) 0 ms).2
      else (false, (mkN os (oAt os (ms.getD i 0)) (nmN (oAt os (ms.getD i 0)).1 (oAt os (ms.getD i 0)).2.length) 0 ms).2)
    else (true, ms)
theorem c_include_loop {sh cap c N : Nat} {os : List Obj} {w1 w2 w3 : Option Value} (hsep : c + 3 ≤ sh ∨ sh + 2 + 3 * cap ≤ c) (hcN : cap ≤ N) : ∀ n i ms S, N < i + n → i ≤ N + 1 → ShelfIs S sh cap os → ClosIs S c N ms → (∀ j ∈ ms, j < os.length) → ∃ S1, runv 79 28 [some (.ref c), some (.ref sh), w1, w2, w3, some (.int (nI i))] [] (hp S) = some (some (.int (bI (bfs os n i ms).1)), hp S1) ∧ ClosIs S1 c N (bfs os n i ms).2 ∧ Out c S S1 := by
  intro n
  induction n with
  | zero =>
    intro i ms S hi hiN hS hC hms
    have hN := hC.1.2.2.2
    have hl := nodup_len hC.2.2.2.2.2.2.1 hC.2.2.2.2.2.2.2
    refine ⟨S, ?_, hC, Out.rf⟩
    rw [s79_28]
    simp only [s79_0, s79_1, s79_4, s79_5, s79_6, s79_7, s79_10, s79_12, s79_14, s79_17, s79_18, s79_19, s79_20, s79_22, s79_25, s79_26, s79_30, s79_31, s79_34, s79_37, s79_39, s79_40, s79_43, s79_44, s79_47, s79_48, s79_49, s79_50, s79_51, s79_54, s79_56, s79_57, s79_60, s79_63, s79_66, s79_67, s79_68, s79_71, s79_74, s79_75, cl2 hC.1, hC.2.1, vb1]
    rw [if_pos (nI_le (by omega) (by omega))]
    rfl
  | succ n ih =>
    intro i ms S hi hiN hS hC hms
    have hN := hC.1.2.2.2
    have hl := nodup_len hC.2.2.2.2.2.2.1 hC.2.2.2.2.2.2.2
    have t1 := clt (S := S) hC.1
    have t2 := sht (S := S) hS.1
    have hle := hS.2.1
    rw [s79_28]
    simp only [s79_0, s79_1, s79_4, s79_5, s79_6, s79_7, s79_10, s79_12, s79_14, s79_17, s79_18, s79_19, s79_20, s79_22, s79_25, s79_26, s79_30, s79_31, s79_34, s79_37, s79_39, s79_40, s79_43, s79_44, s79_47, s79_48, s79_49, s79_50, s79_51, s79_54, s79_56, s79_57, s79_60, s79_63, s79_66, s79_67, s79_68, s79_71, s79_74, s79_75, cl1 hC.1, cl2 hC.1, hC.2.1, arl hC.1.2.2.1, hC.2.2.2.1, vb1]
    by_cases hil : i < ms.length
    · have hmi : ms.getD i 0 ∈ ms := by
        rw [List.getD_eq_getElem?_getD, List.getElem?_eq_getElem hil]
        exact List.getElem_mem hil
      have hpl := hms _ hmi
      have hget : (S.2 (c + 2)).getD i 0 = nI (ms.getD i 0) := by
        have e : ((S.2 (c + 2)).take ms.length)[i]? = (ms.map nI)[i]? := by rw [hC.2.2.2.2.1]
        rw [List.getElem?_take_of_lt hil, List.getElem?_map] at e
        rw [List.getD_eq_getElem?_getD, e, List.getD_eq_getElem?_getD, List.getElem?_eq_getElem hil]
        rfl
      rw [if_neg (nI_ge hil (by omega)), if_neg (nI_ge (by omega) (by omega)), arg hC.1.2.2.1 (by rw [hC.2.2.2.1]; omega) (by rw [hC.2.2.2.1]; omega), hget]
      have ho : os[ms.getD i 0]? = some (oAt os (ms.getD i 0)) := by
        rw [oAt, List.getD_eq_getElem?_getD (l := os), List.getElem?_eq_getElem hpl]
        rfl
      obtain ⟨S1, g1, g2, g3⟩ := c_markNamed hsep hcN ho hS hC
      simp only [s79_0, s79_1, s79_4, s79_5, s79_6, s79_7, s79_10, s79_12, s79_14, s79_17, s79_18, s79_19, s79_20, s79_22, s79_25, s79_26, s79_30, s79_31, s79_34, s79_37, s79_39, s79_40, s79_43, s79_44, s79_47, s79_48, s79_49, s79_50, s79_51, s79_54, s79_56, s79_57, s79_60, s79_63, s79_66, s79_67, s79_68, s79_71, s79_74, s79_75, List.length_cons, List.length_nil, Nat.reduceAdd, Nat.reduceLeDiff, Nat.zero_le, t1, t2, c_shGet hS.1 (show ms.getD i 0 < cap by omega), vbind_some, vpush_some, g1, if_bI, vb0, nI_1]
      rw [bfs, if_pos hil]
      cases hq : (mkN os (oAt os (ms.getD i 0)) (nmN (oAt os (ms.getD i 0)).1 (oAt os (ms.getD i 0)).2.length) 0 ms).1 with
      | true =>
        rw [if_pos rfl, if_pos rfl]
        obtain ⟨S2, k1, k2, k3⟩ := ih (i + 1) _ S1 (by omega) (by omega) (hS.agr (g3 _ _ (by omega))) g2 (mkN_lt (Nat.le_refl _) _ _ _ hms)
        exact ⟨S2, k1, k2, g3.tr k3⟩
      | false =>
        rw [if_neg (by decide), if_neg (by decide)]
        exact ⟨S1, rfl, g2, g3⟩
    · rw [if_pos (nI_le (by omega) (by omega)), bfs, if_neg hil]
      exact ⟨S, rfl, hC, Out.rf⟩
def incl (os : List Obj) (N : Nat) (id : Int32) (ms : List Nat) : Bool × List Nat := match fIdx os id with
  | none => (false, ms)
  | some p => bfs os (N + 1) ms.length (ins ms p)
theorem c_include {S : vSt} {sh cap c N : Nat} {id : Int32} {os : List Obj} {ms : List Nat} (hsep : c + 3 ≤ sh ∨ sh + 2 + 3 * cap ≤ c) (hcN : cap ≤ N) (hS : ShelfIs S sh cap os) (hC : ClosIs S c N ms) (hms : ∀ j ∈ ms, j < os.length) : ∃ S1, callv 79 [.ref c, .ref sh, .int id] (hp S) = some (some (.int (bI (incl os N id ms).1)), hp S1) ∧ ClosIs S1 c N (incl os N id ms).2 ∧ Out c S S1 := by
  have hN := hC.1.2.2.2
  have hl := nodup_len hC.2.2.2.2.2.2.1 hC.2.2.2.2.2.2.2
  have t1 := clt (S := S) hC.1
  have t2 := sht (S := S) hS.1
  have hle := hS.2.1
  have start : callv 79 [.ref c, .ref sh, .int id] (hp S) = if 0 ≤ oI (fIdx os id) then vbind (callv 81 [.ref c, .int (oI (fIdx os id))] (hp S)) (fun v h' => runv 79 25 [some (.ref c), some (.ref sh), some (.int id), some (.int (nI ms.length)), some (.int (oI (fIdx os id))), none] (vpush v []) h') else some (some (.int 0), hp S) := by
    show runv 79 0 [some (.ref c), some (.ref sh), some (.int id), none, none, none] [] (hp S) = _
    simp only [s79_0, s79_1, s79_4, s79_5, s79_6, s79_7, s79_10, s79_12, s79_14, s79_17, s79_18, s79_19, s79_20, s79_22, cl2 hC.1, hC.2.1, List.length_cons, List.length_nil, Nat.reduceAdd, Nat.reduceLeDiff, Nat.zero_le, t1, t2, c_find hS, vbind_some, vpush_some, vb0]
  rw [start]
  unfold incl
  cases hf : fIdx os id with
  | none =>
    rw [if_neg (show ¬ 0 ≤ oI none by decide)]
    exact ⟨S, rfl, hC, Out.rf⟩
  | some p =>
    have hp0 := fIdx_lt hf
    rw [if_pos (show 0 ≤ oI (some p) from nI_pos' (by omega)), show oI (some p) = nI p from rfl, c_mark hC (by omega)]
    simp only [vbind_some, vpush_none, s79_25, s79_26]
    have hO : Out c S (closPut S c ms p) := fun lo hi g => closPut_agr g
    obtain ⟨S1, g1, g2, g3⟩ := c_include_loop (w1 := some (.int id)) (w2 := some (.int (nI ms.length))) (w3 := some (.int (nI p))) hsep hcN (N + 1) ms.length (ins ms p) (closPut S c ms p) (by omega) (by omega) (hS.agr (hO _ _ (by omega))) (hC.put (by omega)) (by
      intro x hx
      rcases ins_mem.mp hx with q | rfl
      · exact hms x q
      · exact hp0)
    exact ⟨S1, g1, g2, hO.tr g3⟩
