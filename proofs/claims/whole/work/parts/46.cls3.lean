/-! the class: lists, looking up -/
section CLS3
variable {S : vSt} {bs : List Nat} {os cs : List Obj} {rf wn hv : List Int32}
theorem Fr.ids {S : vSt} {P : Nat → Nat → Prop} {A : Nat → Prop} {l a : Nat} {xs : List Int32} (h1 : P l 1) (h2 : A a) : Fr S (idsSet S l a xs) P A := by
  refine ⟨fun b j hq => ?_, fun b hq => ?_⟩
  · by_cases hb : b = l
    · by_cases hj : j = 1
      · subst hb; subst hj; exact absurd h1 hq
      · rw [idsSet, au_1, fu_k _ _ hj]
    · rw [idsSet, au_1, fu_a _ _ hb]
  · have hb : b ≠ a := fun e => hq (e ▸ h2)
    rw [idsSet, au_a _ _ hb, fu_2]
theorem Lens.fr {S S1 : vSt} {P : Nat → Nat → Prop} {A : Nat → Prop} (h : Lens S) (hf : Fr S S1 P A) (hA : ∀ b, A b → b < 130 ∨ (130 < b ∧ b < 137)) : Lens S1 := by
  have n2 : ∀ a, a = 130 ∨ 137 ≤ a → S1.2 a = S.2 a := fun a ha => hf.2 a (fun q => by have := hA a q; omega)
  obtain ⟨k1, k2, k3, k4, k5, ⟨g1, g2, g3, g4, g5⟩, k7, k8⟩ := h
  exact ⟨by rw [n2 _ (by omega), k1], by rw [n2 _ (by omega), k2], by rw [n2 _ (by omega), k3], by rw [n2 _ (by omega), k4], by rw [n2 _ (by omega), k5], ⟨by rw [n2 _ (by omega), g1], by rw [n2 _ (by omega), g2], by rw [n2 _ (by omega), g3], by rw [n2 _ (by omega), g4], by rw [n2 _ (by omega), g5]⟩, fun e he => by rw [n2 _ (by omega), k7 e he], fun e he => by rw [n2 _ (by omega), k8 e he]⟩
theorem ClsIs.wants (h : ClsIs S (bs, os, cs, rf, wn, hv)) {xs : List Int32} (hl : xs.length ≤ 16) : ClsIs (idsSet S 132 133 xs) (bs, os, cs, rf, xs, hv) ∧ Agr S (idsSet S 132 133 xs) 249 300 := by
  obtain ⟨h1, h2, h3, h4, h5, h6, h7, h8, h9⟩ := h
  have F : Fr S (idsSet S 132 133 xs) (fun b _ => b = 132) (fun b => b = 133) := Fr.ids rfl rfl
  exact ⟨⟨h1.fr F (by omega) (by omega), h2, h3.fr F (fun b j q => by omega) (fun b q => by omega), h4.fr F (fun b j q => by omega) (fun b q => by omega), by rw [F.2 131 (by omega), h5], h6, h7.set hl, h8.fr F (by omega) (by omega), h9.fr F (fun b q => by omega)⟩, F.agr (fun b j q => by omega) (fun b q => by omega)⟩
theorem ClsIs.haves (h : ClsIs S (bs, os, cs, rf, wn, hv)) {xs : List Int32} (hl : xs.length ≤ 8) : ClsIs (idsSet S 134 135 xs) (bs, os, cs, rf, wn, xs) ∧ Agr S (idsSet S 134 135 xs) 249 300 := by
  obtain ⟨h1, h2, h3, h4, h5, h6, h7, h8, h9⟩ := h
  have F : Fr S (idsSet S 134 135 xs) (fun b _ => b = 134) (fun b => b = 135) := Fr.ids rfl rfl
  exact ⟨⟨h1.fr F (by omega) (by omega), h2, h3.fr F (fun b j q => by omega) (fun b q => by omega), h4.fr F (fun b j q => by omega) (fun b q => by omega), by rw [F.2 131 (by omega), h5], h6, h7.fr F (by omega) (by omega), h8.set hl, h9.fr F (fun b q => by omega)⟩, F.agr (fun b j q => by omega) (fun b q => by omega)⟩
theorem idst {l a : Nat} (h : sk[l]? = some (2, [some a, none])) : vtag (hp S) l = 2 := vtag_hp h
theorem m_have (h : ClsIs S (bs, os, cs, rf, wn, hv)) (id : Int32) : if hv.length < 8 ∧ ¬ id ∈ hv then Meth S 10 [.int id] 1 (bs, os, cs, rf, wn, hv ++ [id]) else Meth S 10 [.int id] 0 (bs, os, cs, rf, wn, hv) := by
  have hI : IdsIs S 134 135 8 hv := h.2.2.2.2.2.2.2.1
  have t := idst (S := S) hI.1
  have e : callv 10 [.ref 1, .int id] (hp S) = vbind (callv 95 [.ref 134, .int id] (hp S)) (fun v h' => runv 10 8 [some (.ref 1), some (.int id)] (vpush v []) h') := by
    show runv 10 0 [some (.ref 1), some (.int id)] [] (hp S) = _
    simp only [s10_0, s10_1, s10_4, s10_5, p6, List.length_cons, List.length_nil, Nat.reduceAdd, Nat.reduceLeDiff, Nat.zero_le, t]
  rw [c_idsAdd hI] at e
  by_cases q : hv.length < 8 ∧ ¬ id ∈ hv
  · rw [if_pos q]
    rw [if_pos q, vbind_some, vpush_some, s10_8 vb1] at e
    exact ⟨_, e, h.haves (by rw [List.length_append, List.length_singleton]; omega)⟩
  · rw [if_neg q]
    rw [if_neg q, vbind_some, vpush_some, s10_8 vb0] at e
    exact ⟨S, e, h, Agr.rf⟩
theorem c_isLed_loop (h5 : S.2 131 = rf) (h6 : rf.length = 4) {id : Int32} : ∀ k r, r + k = 4 → runv 19 9 [some (.ref 1), some (.int id), some (.int (nI r))] [] (hp S) = some (some (.int (bI (decide (id ∈ rf.drop r)))), hp S) := by
  intro k
  induction k with
  | zero =>
    intro r hr
    rw [s19_9]
    simp only [s19_10, s19_11, s19_32, s19_33, vb0]
    rw [if_pos (show (4 : Int32) ≤ nI r from nI_le (a := 4) (by omega) (by omega)), List.drop_of_length_le (by omega)]
    rfl
  | succ k ih =>
    intro r hr
    have hrl : r < rf.length := by omega
    rw [s19_9]
    simp only [s19_10, s19_11, s19_14, s19_15, s19_18, s19_19, s19_20, s19_21, s19_24, s19_25, s19_26, s19_29, p4, arg sk131 (show r < (S.2 131).length by rw [h5]; exact hrl) (by rw [h5]; omega), h5, vb1, nI_1]
    rw [if_neg (show ¬ (4 : Int32) ≤ nI r from nI_ge (b := 4) (by omega) (by omega)), ih (r + 1) (by omega), List.drop_eq_getElem_cons hrl, List.getD_eq_getElem?_getD, List.getElem?_eq_getElem hrl]
    show (if rf[r] = id then _ else _) = _
    by_cases q : rf[r] = id
    · rw [if_pos q, decide_eq_true (by rw [q]; exact List.mem_cons_self)]
      rfl
    · rw [if_neg q]
      congr 5
      apply decide_eq_decide.mpr
      rw [List.mem_cons]
      constructor
      · exact fun z => Or.inr z
      · rintro (z | z)
        · exact absurd z.symm q
        · exact z
theorem c_isLed (h5 : S.2 131 = rf) (h6 : rf.length = 4) {id : Int32} : callv 19 [.ref 1, .int id] (hp S) = some (some (.int (bI (decide (id ≠ -1 ∧ id ∈ rf)))), hp S) := by
  have e := c_isLed_loop (id := id) h5 h6 4 0 (by omega)
  rw [List.drop_zero] at e
  have st : callv 19 [.ref 1, .int id] (hp S) = if id = -1 then some (some (.int 0), hp S) else runv 19 9 [some (.ref 1), some (.int id), some (.int (nI 0))] [] (hp S) := by
    show runv 19 0 [some (.ref 1), some (.int id), none] [] (hp S) = _
    simp only [s19_0, s19_1, s19_2, s19_5, s19_6, s19_7, s19_8, vb0]
    rfl
  rw [st]
  by_cases q : id = -1
  · rw [if_pos q, decide_eq_false (fun z => z.1 q)]
    rfl
  · rw [if_neg q, e]
    congr 5
    exact decide_eq_decide.mpr ⟨fun z => ⟨q, z⟩, fun z => z.2⟩
theorem m_want (h : ClsIs S (bs, os, cs, rf, wn, hv)) (id : Int32) : if id ≠ -1 ∧ id ∈ rf then Meth S 9 [.int id] 1 (bs, os, cs, rf, (if wn.length < 16 ∧ ¬ id ∈ wn then wn ++ [id] else wn), hv) else Meth S 9 [.int id] 0 (bs, os, cs, rf, wn, hv) := by
  have hI : IdsIs S 132 133 16 wn := h.2.2.2.2.2.2.1
  have t := idst (S := S) hI.1
  have tp := pt (S := S)
  have e : callv 9 [.ref 1, .int id] (hp S) = if decide (id ≠ -1 ∧ id ∈ rf) = true then vbind (callv 95 [.ref 132, .int id] (hp S)) (fun v h' => runv 9 18 [some (.ref 1), some (.int id)] (vpush v []) h') else some (some (.int 0), hp S) := by
    show runv 9 0 [some (.ref 1), some (.int id)] [] (hp S) = _
    simp only [s9_0, s9_1, s9_2, s9_5, s9_8, s9_9, s9_10, s9_11, s9_14, s9_15, p5, List.length_cons, List.length_nil, Nat.reduceAdd, Nat.reduceLeDiff, Nat.zero_le, t, tp, c_isLed h.2.2.2.2.1 h.2.2.2.2.2.1, vbind_some, vpush_some, if_bI, vb0]
  rw [c_idsAdd hI] at e
  by_cases q : id ≠ -1 ∧ id ∈ rf
  · rw [if_pos q]
    rw [if_pos (decide_eq_true q)] at e
    by_cases z : wn.length < 16 ∧ ¬ id ∈ wn
    · rw [if_pos z]
      rw [if_pos z, vbind_some, vpush_some] at e
      simp only [s9_18, r9_18, s9_19, s9_20, vb1] at e
      exact ⟨_, e, h.wants (by rw [List.length_append, List.length_singleton]; omega)⟩
    · rw [if_neg z]
      rw [if_neg z, vbind_some, vpush_some] at e
      simp only [s9_18, r9_18, s9_19, s9_20, vb1] at e
      exact ⟨S, e, h, Agr.rf⟩
  · rw [if_neg q]
    rw [if_neg (by rw [decide_eq_false q]; decide)] at e
    exact ⟨S, e, h, Agr.rf⟩
theorem m_forget (h : ClsIs S (bs, os, cs, rf, wn, hv)) : Meth S 13 [] (nI cs.length) (bs, os, [], rf, wn, hv) := by
  obtain ⟨h1, h2, h3, h4, h5, h6, h7, h8, h9⟩ := h
  have t := fun S => sht (S := S) h4.1
  have F : Fr S (fu S 54 1 0) (fun b j => b = 54 ∧ j = 1) (fun _ => False) := Fr.fu ⟨rfl, rfl⟩
  refine ⟨fu S 54 1 0, ?_, ⟨h1.fu (by omega), h2, h3.fr F (fun b j q => by omega) (fun b q => q.elim), ⟨h4.1, by simp, by rw [fu_at]; rfl, by simp, h4.2.2.2.2⟩, h5, h6, h7.fr F (by omega) (fun q => q), h8.fr F (by omega) (fun q => q), h9⟩, F.agr (fun b j q => by omega) (fun b q => q.elim)⟩
  show runv 13 0 [some (.ref 1), none] [] (hp S) = _
  simp only [s13_0, s13_1, s13_4, s13_7, s13_8, s13_9, s13_12, s13_15, s13_16, p2, List.length_cons, List.length_nil, Nat.reduceAdd, Nat.reduceLeDiff, Nat.zero_le, t, c_held h4, c_shClear h4.1, vbind_some, vpush_some, vpush_none]
/-- the side that a number names -/
def sideOf (os cs : List Obj) (s : Int32) : Option (List Obj) := if s = 0 then some os else if s = 1 then some cs else none
theorem c_shelfOf (s : Int32) : callv 20 [.ref 1, .int s] (hp S) = some (some (if s = 0 then .ref 4 else if s = 1 then .ref 54 else .null), hp S) := by
  show runv 20 0 [some (.ref 1), some (.int s)] [] (hp S) = _
  simp only [s20_0, s20_1, s20_4, s20_5, s20_8, n20_8, s20_9, s20_10, s20_11, s20_14, s20_15, s20_18, s20_21, s20_22, n20_22, p1, p2]
  by_cases q0 : s = 0
  · rw [if_pos q0, if_pos q0]
  · rw [if_neg q0, if_neg q0]
    by_cases q1 : s = 1
    · rw [if_pos q1, if_pos q1]
    · rw [if_neg q1, if_neg q1]
/-- a side's object by its ID -/
def objOn (os cs : List Obj) (s id : Int32) : Option Obj := match sideOf os cs s with
  | none => none
  | some l => match fIdx l id with
    | none => none
    | some j => l[j]?
theorem c_itemOn (h3 : ShelfIs S 4 16 os) (h4 : ShelfIs S 54 24 cs) (s id : Int32) : match objOn os cs s id with
    | none => callv 21 [.ref 1, .int s, .int id] (hp S) = some (some .null, hp S)
    | some o => ∃ ad : Nat, callv 21 [.ref 1, .int s, .int id] (hp S) = some (some (.ref ad), hp S) ∧ ItemIs S ad (ad + 1) (ad + 2) o.1 o.2 := by
  have tp := pt (S := S)
  have key : ∀ (sh cap : Nat) (l : List Obj), ShelfIs S sh cap l → match (match fIdx l id with | none => none | some j => l[j]?) with
      | none => runv 21 5 [some (.ref 1), some (.int s), some (.int id), none, none] [.ref sh] (hp S) = some (some .null, hp S)
      | some o => ∃ ad : Nat, runv 21 5 [some (.ref 1), some (.int s), some (.int id), none, none] [.ref sh] (hp S) = some (some (.ref ad), hp S) ∧ ItemIs S ad (ad + 1) (ad + 2) o.1 o.2 := by
    intro sh cap l hS
    have hc := hS.1.2.2.2
    have hle := hS.2.1
    have t := sht (S := S) hS.1
    have e : runv 21 5 [some (.ref 1), some (.int s), some (.int id), none, none] [.ref sh] (hp S) = if 0 ≤ oI (fIdx l id) then runv 21 28 [some (.ref 1), some (.int s), some (.int id), some (.ref sh), some (.int (oI (fIdx l id)))] [] (hp S) else some (some .null, hp S) := by
      simp only [s21_5, n21_5, s21_6, n21_6, s21_7, n21_7, s21_10, s21_11, n21_11, s21_12, n21_12, s21_13, s21_14, s21_17, s21_19, s21_21, s21_24, s21_25, n21_34, List.length_cons, List.length_nil, Nat.reduceAdd, Nat.reduceLeDiff, Nat.zero_le, t, c_find hS, vbind_some, vpush_some]
    rw [e]
    cases hf : fIdx l id with
    | none => exact if_neg (show ¬ 0 ≤ oI none by decide)
    | some j =>
      have hj := fIdx_lt hf
      have hit := hS.2.2.2.1 j _ (List.getElem?_eq_getElem hj)
      simp only [List.getElem?_eq_getElem hj]
      refine ⟨sh + 2 + 3 * j, ?_, ?_⟩
      · rw [if_pos (show 0 ≤ oI (some j) from nI_pos' (by omega))]
        simp only [s21_28, n21_28, s21_29, s21_31, s21_34, n21_34, oI, List.length_cons, List.length_nil, Nat.reduceAdd, Nat.reduceLeDiff, Nat.zero_le, t, c_shGet hS.1 (show j < cap by omega), vbind_some, vpush_some]
      · rw [show sh + 2 + 3 * j + 1 = sh + 3 + 3 * j by omega, show sh + 2 + 3 * j + 2 = sh + 4 + 3 * j by omega]
        exact hit
  have st : callv 21 [.ref 1, .int s, .int id] (hp S) = runv 21 5 [some (.ref 1), some (.int s), some (.int id), none, none] [if s = 0 then .ref 4 else if s = 1 then .ref 54 else .null] (hp S) := by
    show runv 21 0 [some (.ref 1), some (.int s), some (.int id), none, none] [] (hp S) = _
    simp only [s21_0, s21_1, s21_2, List.length_cons, List.length_nil, Nat.reduceAdd, Nat.reduceLeDiff, Nat.zero_le, tp, c_shelfOf, vbind_some, vpush_some]
  rw [st]
  unfold objOn sideOf
  by_cases q0 : s = 0
  · rw [if_pos q0, if_pos q0]
    exact key 4 16 os h3
  · rw [if_neg q0, if_neg q0]
    by_cases q1 : s = 1
    · rw [if_pos q1, if_pos q1]
      exact key 54 24 cs h4
    · rw [if_neg q1, if_neg q1]
      show runv 21 5 [some (.ref 1), some (.int s), some (.int id), none, none] [.null] (hp S) = some (some .null, hp S)
      simp only [s21_5, n21_5, s21_6, n21_6, s21_7, n21_7, s21_10, s21_11, n21_11]
end CLS3
