/-! shelves: keep, what is named -/
theorem ItemIs.congr {S S1 : vSt} {it r a k : Nat} {bs : List Nat} (h : ItemIs S it r a k bs) (e1 : ∀ j, S1.1 it j = S.1 it j) (e2 : ∀ j, S1.1 r j = S.1 r j) (e3 : S1.2 a = S.2 a) : ItemIs S1 it r a k bs := by
  obtain ⟨h1, ⟨g1, g2, g3, g4, g5, g6⟩, h3, h4, h5, h6⟩ := h
  exact ⟨h1, ⟨g1, by rw [e2, g2], by rw [e3, g3], by rw [e3, g4], g5, g6⟩, by rw [e1, h3], by rw [e1, h4], h5, h6⟩
/-- two states agree on the cells from lo on, below hi -/
def Agr (S S1 : vSt) (lo hi : Nat) : Prop := ∀ b, lo ≤ b → b < hi → (∀ j, S1.1 b j = S.1 b j) ∧ S1.2 b = S.2 b
theorem Agr.rf {S : vSt} {lo hi : Nat} : Agr S S lo hi := fun _ _ _ => ⟨fun _ => rfl, rfl⟩
theorem Agr.tr {S S1 S2 : vSt} {lo hi : Nat} (h : Agr S S1 lo hi) (h2 : Agr S1 S2 lo hi) : Agr S S2 lo hi := fun b g1 g2 => ⟨fun j => ((h2 b g1 g2).1 j).trans ((h b g1 g2).1 j), (h2 b g1 g2).2.trans (h b g1 g2).2⟩
theorem Agr.sub {S S1 : vSt} {lo hi lo' hi' : Nat} (h : Agr S S1 lo hi) (h1 : lo ≤ lo') (h2 : hi' ≤ hi) : Agr S S1 lo' hi' := fun b g1 g2 => h b (by omega) (by omega)
theorem Agr.fu {S : vSt} {lo hi a k : Nat} {x : Int32} (h : a < lo ∨ hi ≤ a) : Agr S (fu S a k x) lo hi := fun b g1 g2 => ⟨fun j => fu_a S x (by omega), rfl⟩
theorem Agr.au {S : vSt} {lo hi a : Nat} {l : List Int32} (h : a < lo ∨ hi ≤ a) : Agr S (au S a l) lo hi := fun b g1 g2 => ⟨fun j => rfl, au_a S l (by omega)⟩
theorem Agr.row {S : vSt} {lo hi r a : Nat} {bs : List Nat} (h : r < lo ∨ hi ≤ r) (h2 : a < lo ∨ hi ≤ a) : Agr S (rowSet S r a bs) lo hi := by
  intro b g1 g2
  refine ⟨fun j => ?_, ?_⟩
  · rw [rowSet, au_1, fu_a S _ (by omega)]
  · rw [rowSet, au_a _ _ (by omega), fu_2]
theorem Agr.item {S : vSt} {lo hi it r a k : Nat} {bs : List Nat} (h0 : it < lo ∨ hi ≤ it) (h : r < lo ∨ hi ≤ r) (h2 : a < lo ∨ hi ≤ a) : Agr S (itemSet S it r a k bs) lo hi := ((Agr.row h h2).tr (Agr.fu h0)).tr (Agr.fu h0)
theorem ShelfIs.agr {S S1 : vSt} {sh cap : Nat} {os : List Obj} (h : ShelfIs S sh cap os) (e : Agr S S1 sh (sh + 2 + 3 * cap)) : ShelfIs S1 sh cap os := by
  obtain ⟨h1, h2, h3, h4, h5⟩ := h
  refine ⟨h1, h2, by rw [(e sh (by omega) (by omega)).1, h3], fun i o ho => ?_, fun i hi => by rw [(e _ (by omega) (by omega)).2, h5 i hi]⟩
  have hi : i < os.length := (List.getElem?_eq_some_iff.mp ho).1
  exact (h4 i o ho).congr (fun j => (e _ (by omega) (by omega)).1 j) (fun j => (e _ (by omega) (by omega)).1 j) (e _ (by omega) (by omega)).2
def shPush (S : vSt) (sh n k : Nat) (bs : List Nat) : vSt := fu (itemSet S (sh + 2 + 3 * n) (sh + 3 + 3 * n) (sh + 4 + 3 * n) k bs) sh 1 (nI (n + 1))
theorem c_keep {S : vSt} {sh cap it r a k : Nat} {bs : List Nat} {os : List Obj} (h : ShelfIs S sh cap os) (hi : ItemIs S it r a k bs) (hl : os.length < cap) (hr : r < sh ∨ sh + 2 + 3 * cap ≤ r) : callv 163 [.ref sh, .ref it] (hp S) = some (none, hp (shPush S sh os.length k bs)) := by
  have h0 := h
  obtain ⟨h1, h2, h3, h4, h5⟩ := h
  have hc := h1.2.2.2
  have hit := h1.2.2.1 os.length hl
  have t1 := itt (S := S) hit
  have t2 := itt (S := S) hi.1
  have b7 := hi.2.1.2.2.2.2.1
  have e1 := c_fill (k := k) hit (h5 _ hl) hi.2.1 hi.2.2.2.2.1 (by have := hi.2.2.2.2.2; omega) (by omega) b7
  show runv 163 0 [some (.ref sh), some (.ref it)] [] (hp S) = _
  have e2 : (itemSet S (sh + 2 + 3 * os.length) (sh + 3 + 3 * os.length) (sh + 4 + 3 * os.length) k bs).1 sh 1 = nI os.length := by
    rw [((Agr.item (S := S) (lo := sh) (hi := sh + 1) (by omega) (by omega) (by omega)) sh (by omega) (by omega)).1, h3]
  simp only [s163_0, s163_1, s163_4, s163_5, s163_8, s163_9, s163_12, s163_13, s163_16, s163_17, s163_20, s163_21, n163_21, s163_22, s163_25, n163_25, s163_26, s163_29, s163_32, s163_33, r163_33, s163_34, s163_37, s163_38, s163_39, s163_42, sh0 h1, sh1 h1, shl h1, h3, shg h1 hl]
  rw [if_neg (nI_ge hl (by omega))]
  simp only [s163_0, s163_1, s163_4, s163_5, s163_8, s163_9, s163_12, s163_13, s163_16, s163_17, s163_20, s163_21, n163_21, s163_22, s163_25, n163_25, s163_26, s163_29, s163_32, s163_33, r163_33, s163_34, s163_37, s163_38, s163_39, s163_42, sh0 h1, sh1 h1, List.length_cons, List.length_nil, Nat.reduceAdd, Nat.reduceLeDiff, Nat.zero_le, t1, t2, c_sort hi.1, c_bytes hi.1, hi.2.2.1, vbind_some, vpush_some, vpush_none, e1, e2, nI_1, sh1p h1]
  rfl
theorem ShelfIs.push {S : vSt} {sh cap k : Nat} {bs : List Nat} {os : List Obj} (h : ShelfIs S sh cap os) (hl : os.length < cap) (hb : ∀ x ∈ bs, x < 256) (hk : k ≤ 3) (hc : bs.length ≤ 24) : ShelfIs (shPush S sh os.length k bs) sh cap (os ++ [(k, bs)]) := by
  obtain ⟨h1, h2, h3, h4, h5⟩ := h
  refine ⟨h1, by simp; omega, by rw [shPush, fu_at]; simp, fun i o ho => ?_, fun i hi => ?_⟩
  · by_cases hlt : i < os.length
    · rw [List.getElem?_append_left hlt] at ho
      have g := h4 i o ho
      have ag : Agr S (shPush S sh os.length k bs) (sh + 2 + 3 * i) (sh + 5 + 3 * i) := (Agr.item (by omega) (by omega) (by omega)).tr (Agr.fu (by omega))
      exact g.congr (fun j => (ag _ (by omega) (by omega)).1 j) (fun j => (ag _ (by omega) (by omega)).1 j) (ag _ (by omega) (by omega)).2
    · have hi : i = os.length := by
        have := (List.getElem?_eq_some_iff.mp ho).1
        simp at this
        omega
      subst hi
      simp at ho
      subst ho
      have g := ItemIs.set (S := S) (h1.2.2.1 os.length hl) (h5 _ hl) hb hk hc
      exact g.congr (fun j => by rw [shPush, fu_a _ _ (by omega)]) (fun j => by rw [shPush, fu_a _ _ (by omega)]) rfl
  · by_cases hlt : i = os.length
    · subst hlt
      simp only [shPush, fu_2, itemSet, rowSet, au_at]
      simp
      have := h5 os.length hl
      omega
    · have ag : Agr S (shPush S sh os.length k bs) (sh + 4 + 3 * i) (sh + 5 + 3 * i) := (Agr.item (by omega) (by omega) (by omega)).tr (Agr.fu (by omega))
      rw [(ag _ (by omega) (by omega)).2, h5 i hi]
/-- the place of the i-th object that o names, if it is there and of a right kind -/
def nmd (os : List Obj) (o : Obj) (i : Nat) : Option Nat := match fIdx os (nI (nmId o.1 o.2 i)) with
  | some j => if mayN o.1 i ((os.getD j (0, [])).1) = true then some j else none
  | none => none
theorem nm_in {k n i : Nat} (h : i < nmN k n) : nmP k i + 1 < n ∧ i < 100 ∨ 100 < n := by
  unfold nmN at h
  unfold nmP
  split at h
  · rename_i h1
    rw [if_pos h1]
    omega
  · rename_i h1
    rw [if_neg h1]
    split at h <;> omega
theorem fIdx_lt {os : List Obj} {id : Int32} {j : Nat} (h : fIdx os id = some j) : j < os.length := by
  unfold fIdx at h
  exact (List.findIdx?_eq_some_iff_getElem.mp h).1
theorem c_findNamed {S : vSt} {sh cap it r a i : Nat} {o : Obj} {os : List Obj} (h : ShelfIs S sh cap os) (hi : ItemIs S it r a o.1 o.2) (hn : i < nmN o.1 o.2.length) : callv 164 [.ref sh, .ref it, .int (nI i)] (hp S) = some (some (.int (oI (nmd os o i))), hp S) := by
  have h0 := h
  obtain ⟨h1, h2, h3, h4, h5⟩ := h
  have hc := h1.2.2.2
  have b7 := hi.2.1.2.2.2.2.1
  have hin : nmP o.1 i + 1 < o.2.length ∧ i < 100 := by
    rcases nm_in hn with q | q
    · exact q
    · omega
  have t1 := itt (S := S) hi.1
  have t2 := sht (S := S) h1
  show runv 164 0 [some (.ref sh), some (.ref it), some (.int (nI i)), none] [] (hp S) = _
  simp only [s164_0, s164_1, n164_1, s164_2, s164_3, s164_6, s164_9, s164_10, s164_11, s164_14, n164_14, s164_15, s164_16, s164_17, s164_20, s164_21, s164_22, s164_25, s164_28, s164_31, s164_32, s164_35, s164_36, sh0 h1, List.length_cons, List.length_nil, Nat.reduceAdd, Nat.reduceLeDiff, Nat.zero_le, t1, t2, c_namedId hi hin.1, c_find h0, vbind_some, vpush_some]
  unfold nmd
  cases hf : fIdx os (nI (nmId o.1 o.2 i)) with
  | none =>
    rw [if_pos (show oI none < 0 by decide)]
    rfl
  | some j =>
    have hj := fIdx_lt hf
    have hij := h4 j os[j] (List.getElem?_eq_getElem hj)
    have t3 := itt (S := S) hij.1
    have ho3 := hij.2.2.2.2.2
    rw [if_neg (show ¬ oI (some j) < 0 from nI_pos (by omega)), show oI (some j) = nI j from rfl, shg h1 (by omega)]
    simp only [s164_0, s164_1, n164_1, s164_2, s164_3, s164_6, s164_9, s164_10, s164_11, s164_14, n164_14, s164_15, s164_16, s164_17, s164_20, s164_21, s164_22, s164_25, s164_28, s164_31, s164_32, s164_35, s164_36, List.length_cons, List.length_nil, Nat.reduceAdd, Nat.reduceLeDiff, Nat.zero_le, t1, t3, c_sort hij.1, hij.2.2.1, vbind_some, vpush_some, c_mayName hi hin.2 (show os[j].1 < 100 by omega), if_bI]
    have eg : os.getD j (0, []) = os[j] := by rw [List.getD_eq_getElem?_getD, List.getElem?_eq_getElem hj]; rfl
    rw [eg]
    cases mayN o.1 i os[j].1 with
    | true => rfl
    | false => rfl
def allNm (os : List Obj) (o : Obj) (i : Nat) : Prop := ∀ q, i ≤ q → q < nmN o.1 o.2.length → (nmd os o q).isSome = true
theorem c_holdsAll_loop {S : vSt} {sh cap it r a : Nat} {o : Obj} {os : List Obj} (h : ShelfIs S sh cap os) (hi : ItemIs S it r a o.1 o.2) : ∀ k i, i + k = nmN o.1 o.2.length → ∃ b : Bool, (b = true ↔ allNm os o i) ∧ runv 165 2 [some (.ref sh), some (.ref it), some (.int (nI i))] [] (hp S) = some (some (.int (bI b)), hp S) := by
  have b7 := hi.2.1.2.2.2.2.1
  have hN : nmN o.1 o.2.length ≤ 24 := by
    unfold nmN
    split
    · omega
    · split <;> omega
  have t1 := itt (S := S) hi.1
  have t2 := sht (S := S) h.1
  have hcap := h.1.2.2.2
  intro k
  induction k with
  | zero =>
    intro i hk
    rw [s165_2]
    simp only [s165_0, s165_1, s165_3, n165_3, s165_4, s165_7, s165_10, s165_11, n165_11, s165_12, s165_13, s165_16, s165_19, s165_20, s165_21, s165_24, s165_27, s165_28, List.length_cons, List.length_nil, Nat.reduceAdd, Nat.reduceLeDiff, Nat.zero_le, t1, t2, c_namedItems hi, vbind_some, vpush_some, vb1]
    rw [if_pos (nI_le (by omega) (by omega))]
    exact ⟨true, by simp only [true_iff]; intro q h1 h2; omega, rfl⟩
  | succ k ih =>
    intro i hk
    have e := c_findNamed h hi (i := i) (by omega)
    rw [s165_2]
    simp only [s165_0, s165_1, s165_3, n165_3, s165_4, s165_7, s165_10, s165_11, n165_11, s165_12, s165_13, s165_16, s165_19, s165_20, s165_21, s165_24, s165_27, s165_28, List.length_cons, List.length_nil, Nat.reduceAdd, Nat.reduceLeDiff, Nat.zero_le, t1, t2, c_namedItems hi, vbind_some, vpush_some, vb0, e, nI_1]
    rw [if_neg (nI_ge (by omega) (by omega))]
    cases hm : nmd os o i with
    | none =>
      rw [if_neg (show ¬ 0 ≤ oI none by decide)]
      refine ⟨false, ?_, rfl⟩
      simp only [Bool.false_eq_true, false_iff]
      intro hf
      have := hf i (by omega) (by omega)
      rw [hm] at this
      cases this
    | some j =>
      have hj : j < 2 ^ 31 := by
        unfold nmd at hm
        split at hm
        · rename_i j2 hj2
          have := fIdx_lt hj2
          have := h.2.1
          split at hm
          · cases hm; omega
          · cases hm
        · cases hm
      rw [if_pos (show 0 ≤ oI (some j) from nI_pos' hj)]
      obtain ⟨b, hb, hr⟩ := ih (i + 1) (by omega)
      refine ⟨b, ?_, hr⟩
      rw [hb]
      constructor
      · intro hf q hq1 hq2
        by_cases hqi : q = i
        · subst hqi; rw [hm]; rfl
        · exact hf q (by omega) hq2
      · intro hf q hq1 hq2
        exact hf q (by omega) hq2
theorem c_holdsAll {S : vSt} {sh cap it r a : Nat} {o : Obj} {os : List Obj} (h : ShelfIs S sh cap os) (hi : ItemIs S it r a o.1 o.2) : ∃ b : Bool, (b = true ↔ allNm os o 0) ∧ callv 165 [.ref sh, .ref it] (hp S) = some (some (.int (bI b)), hp S) := by
  obtain ⟨b, hb, hr⟩ := c_holdsAll_loop h hi (nmN o.1 o.2.length) 0 (by omega)
  refine ⟨b, hb, ?_⟩
  show runv 165 0 [some (.ref sh), some (.ref it), none] [] (hp S) = _
  simp only [s165_0, s165_1]
  exact hr
