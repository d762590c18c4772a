/-! the reference: buffer -/
def BufIs (S : vSt) (bs : List Nat) : Prop := S.1 249 1 = nI bs.length ∧ (S.2 250).length = 640 ∧ (S.2 250).take bs.length = bs.map nI ∧ bs.length ≤ 640
theorem BufIs.get {S : vSt} {i : Nat} {bs : List Nat} (h : BufIs S bs) (hi : i < bs.length) : (S.2 250).getD i 0 = nI (bs.getD i 0) := by
  have e : ((S.2 250).take bs.length)[i]? = (bs.map nI)[i]? := by rw [h.2.2.1]
  rw [List.getElem?_take_of_lt hi, List.getElem?_map, List.getElem?_eq_getElem hi] at e
  rw [List.getD_eq_getElem?_getD, e, List.getD_eq_getElem?_getD, List.getElem?_eq_getElem hi]
  rfl
theorem BufIs.set {S : vSt} {bs cs : List Nat} (h : BufIs S bs) (hc : cs.length ≤ 640) : BufIs (rowSet S 249 250 cs) cs := by
  refine ⟨by rw [rowSet, au_1, fu_at], ?_, ?_, hc⟩
  · simp only [rowSet, au_at]
    rw [List.length_append, List.length_map, List.length_drop, h.2.1]
    omega
  · simp only [rowSet, au_at]
    rw [List.take_left' (by simp)]
theorem BufIs.self {S : vSt} {bs : List Nat} (h : BufIs S bs) : rowSet S 249 250 bs = S := by
  have e2 : bs.map nI ++ (S.2 250).drop bs.length = S.2 250 := by rw [← h.2.2.1, List.take_append_drop]
  refine Prod.ext ?_ ?_
  · funext b j
    rw [rowSet, au_1]
    by_cases hb : b = 249
    · by_cases hj : j = 1
      · subst hb; subst hj; rw [fu_at, h.1]
      · rw [fu_k _ _ hj]
    · rw [fu_a _ _ hb]
  · funext b
    by_cases hb : b = 250
    · subst hb
      simp only [rowSet, au_at]
      exact e2
    · rw [rowSet, au_a _ _ hb, fu_2]
theorem buf_push {S : vSt} {bs : List Nat} {x : Nat} (h : BufIs S bs) (hl : bs.length < 640) : fu (au S 250 ((S.2 250).set bs.length (nI x))) 249 1 (nI (bs.length + 1)) = rowSet S 249 250 (bs ++ [x]) := by
  have e := set_app (l := S.2 250) (m := bs.map nI) (n := bs.length) (v := nI x) h.2.2.1 (by rw [h.2.1]; omega)
  rw [rowSet, e, List.length_append, List.length_singleton, List.map_append]
  rfl
section REF4
variable {S : vSt} {bs : List Nat}
theorem c_rwrite {x : Nat} (h : BufIs S bs) (hl : bs.length < 640) : callv 46 [.ref 249, .int (nI x)] (hp S) = some (none, hp (rowSet S 249 250 (bs ++ [x]))) := by
  have e1 : ∀ l, (au S 250 l).1 249 1 = nI bs.length := fun l => h.1
  show runv 46 0 [some (.ref 249), some (.int (nI x))] [] (hp S) = _
  simp only [s46_0, s46_1, s46_4, s46_5, s46_8, s46_9, s46_10, s46_11, s46_12, s46_15, s46_16, s46_17, s46_20, q0, q1, h.1, gs (x := nI x) rfl h.2.1 hl (by omega), e1, q1p, nI_1, buf_push h hl]
theorem c_rput_loop {w : Int32} {v2 : Option Value} : ∀ k bs S, BufIs S bs → bs.length + k ≤ 640 → k ≤ 4 → runv 26 27 [some (.ref 249), some (.int w), v2, some (.int (nI k - 1))] [] (hp S) = some (some (.int 1), hp (rowSet S 249 250 (bs ++ putB w k))) := by
  intro k
  induction k with
  | zero =>
    intro bs S hR hl hk
    rw [s26_27]
    simp only [s26_28, s26_66, s26_67, vb1]
    rw [if_pos (by decide)]
    show _ = some (some (Value.int 1), hp (rowSet S 249 250 (bs ++ [])))
    rw [List.append_nil, hR.self]
  | succ k ih =>
    intro bs S hR hl hk
    have hR1 := hR.set (cs := bs ++ [byt w k]) (by rw [List.length_append, List.length_singleton]; omega)
    have e2 := ih (bs ++ [byt w k]) _ hR1 (by rw [List.length_append, List.length_singleton]; omega) (by omega)
    rw [rowSet_grow (by simp), List.append_assoc] at e2
    have e1 : ∀ l, (au S 250 l).1 249 1 = nI bs.length := fun l => hR.1
    rw [s26_27]
    simp only [s26_28, s26_31, s26_32, s26_35, s26_36, s26_39, s26_40, s26_42, s26_43, s26_44, s26_45, s26_48, s26_49, s26_50, s26_51, s26_52, s26_55, s26_56, s26_57, s26_60, s26_63, q0, q1, hR.1, nI_pred, byt_eq, gs (x := nI (byt w k)) rfl hR.2.1 (show bs.length < 640 by omega) (by omega), e1, q1p, nI_1, buf_push hR (show bs.length < 640 by omega), show ∀ x : Int32, x + (-1) = x - 1 from fun x => (Int32.sub_eq_add_neg x 1).symm]
    rw [if_neg (nI_pos (by omega)), e2]
    rfl
end REF4
/-- the marks of what is wanted -/
def wMk (os : List Obj) (wn : List Int32) (i : Nat) : Bool := match os[i]? with
  | some o => decide (nI (oid o.1 o.2) ∈ wn)
  | none => false
def ModIs (S : vSt) (m : Mst) : Prop := RLen S ∧ BufIs S m.1 ∧ m.1.length ≤ 500 ∧ (∀ x ∈ m.1, x < 256) ∧ SideIs S 0 m.2.1 ∧ SideIs S 1 m.2.2.1 ∧ S.2 256 = m.2.2.2.1 ∧ (∀ i, i < 16 → (S.2 257).getD i 0 = bI (wMk m.2.1 m.2.2.2.2.1 i)) ∧ S.1 249 10 = bI (decide (m.2.2.2.2.1 ≠ [])) ∧ S.1 249 11 = nI m.2.2.2.2.2.length ∧ m.2.2.2.2.2.length ≤ 8 ∧ (S.2 258).take m.2.2.2.2.2.length = m.2.2.2.2.2
def RMeth (S : vSt) (mi : Nat) (as : List Value) (v : Int32) (m : Mst) : Prop := ∃ S1, callv mi (.ref 249 :: as) (hp S) = some (some (.int v), hp S1) ∧ ModIs S1 m ∧ Agr S S1 0 249
theorem SideIs.of {S S1 : vSt} {s : Nat} {l : List Obj} (h : SideIs S s l) (e1 : S1.2 251 = S.2 251) (e2 : S1.2 252 = S.2 252) (e3 : S1.2 253 = S.2 253) (e4 : S1.2 254 = S.2 254) : SideIs S1 s l := ⟨h.1, by rw [e1, h.2.1], h.2.2.1, fun i o ho => (h.2.2.2 i o ho).of e2 e3 e4⟩
section REF4b
variable {S : vSt} {bs : List Nat} {os cs : List Obj} {rf wn hv : List Int32}
theorem ModIs.buf (h : ModIs S (bs, os, cs, rf, wn, hv)) {ds : List Nat} (hl : ds.length ≤ 500) (hb : ∀ x ∈ ds, x < 256) : ModIs (rowSet S 249 250 ds) (ds, os, cs, rf, wn, hv) ∧ Agr S (rowSet S 249 250 ds) 0 249 := by
  obtain ⟨h1, h2, h3, h4, h5, h6, h7, h8, h9, h10, h11, h12⟩ := h
  have F : Fr S (rowSet S 249 250 ds) (fun b j => b = 249 ∧ j = 1) (fun b => b = 250) := Fr.row ⟨rfl, rfl⟩ rfl
  have n2 : ∀ a, a ≠ 250 → (rowSet S 249 250 ds).2 a = S.2 a := fun a ha => F.2 a ha
  have hB := h2.set (cs := ds) (by omega)
  refine ⟨⟨?_, hB, hl, hb, h5.of (n2 _ (by omega)) (n2 _ (by omega)) (n2 _ (by omega)) (n2 _ (by omega)), h6.of (n2 _ (by omega)) (n2 _ (by omega)) (n2 _ (by omega)) (n2 _ (by omega)), by rw [n2 _ (by omega)]; exact h7, fun i hi => by rw [n2 _ (by omega)]; exact h8 i hi, by rw [F.1 _ _ (by omega)]; exact h9, by rw [F.1 _ _ (by omega)]; exact h10, h11, by rw [n2 _ (by omega)]; exact h12⟩, Agr.row (by omega) (by omega)⟩
  obtain ⟨g0, g1, g2, g3, g4, g5, g6, g7, g8, g9, g10, g11, g12, g13, g14, g15, g16⟩ := h1
  exact ⟨hB.2.1, by rw [n2 _ (by omega), g1], by rw [n2 _ (by omega), g2], by rw [n2 _ (by omega), g3], by rw [n2 _ (by omega), g4], by rw [n2 _ (by omega), g5], by rw [n2 _ (by omega), g6], by rw [n2 _ (by omega), g7], by rw [n2 _ (by omega), g8], by rw [n2 _ (by omega), g9], by rw [n2 _ (by omega), g10], by rw [n2 _ (by omega), g11], by rw [n2 _ (by omega), g12], by rw [n2 _ (by omega), g13], by rw [n2 _ (by omega), g14], by rw [n2 _ (by omega), g15], by rw [n2 _ (by omega), g16]⟩
theorem w_size (h : ModIs S (bs, os, cs, rf, wn, hv)) : RMeth S 29 [] (nI bs.length) (bs, os, cs, rf, wn, hv) := by
  refine ⟨S, ?_, h, Agr.rf⟩
  show runv 29 0 [some (.ref 249)] [] (hp S) = _
  simp only [s29_0, s29_1, s29_4, q1, h.2.1.1]
theorem w_put (h : ModIs S (bs, os, cs, rf, wn, hv)) (w n : Int32) : if ¬ n < 1 ∧ n ≤ 4 ∧ n ≤ nI (500 - bs.length) then RMeth S 26 [.int w, .int n] 1 (bs ++ putB w n.toNatClampNeg, os, cs, rf, wn, hv) else RMeth S 26 [.int w, .int n] 0 (bs, os, cs, rf, wn, hv) := by
  have b5 : bs.length ≤ 500 := h.2.2.1
  have e : callv 26 [.ref 249, .int w, .int n] (hp S) = if decide (1 ≤ n ∧ n ≤ 4) = true then (if nI bs.length + n ≤ 500 then runv 26 27 [some (.ref 249), some (.int w), some (.int n), some (.int (n - 1))] [] (hp S) else some (some (.int 0), hp S)) else some (some (.int 0), hp S) := by
    show runv 26 0 [some (.ref 249), some (.int w), some (.int n), none] [] (hp S) = _
    simp only [s26_0, s26_1, s26_2, s26_3, s26_6, s26_9, s26_10, s26_13, s26_14, s26_15, s26_18, s26_21, s26_22, s26_23, s26_24, s26_25, s26_26, q1, h.2.1.1, List.length_cons, List.length_nil, Nat.reduceAdd, Nat.reduceLeDiff, Nat.zero_le, c_in, vbind_some, vpush_some, vb0, if_bI]
  by_cases h1 : n < 1
  · rw [if_neg (fun q => q.1 h1)]
    rw [if_neg (by rw [decide_eq_false (fun q => Int32.not_le.mpr h1 q.1)]; decide)] at e
    exact ⟨S, e, h, Agr.rf⟩
  · by_cases h2 : n ≤ 4
    · rw [if_pos (decide_eq_true ⟨Int32.not_lt.mp h1, h2⟩)] at e
      obtain ⟨x, hx, rfl⟩ := nat_of (N := 4) (fun q => h1 (Int32.lt_trans q (by decide))) h2 (by omega)
      rw [nI_add] at e
      by_cases h3 : x ≤ 500 - bs.length
      · rw [if_pos ⟨h1, h2, nI_le h3 (by omega)⟩]
        rw [if_pos (show nI (bs.length + x) ≤ 500 from nI_le (b := 500) (by omega) (by omega)), c_rput_loop x bs S h.2.1 (by omega) hx] at e
        rw [nI_clamp (by omega)]
        have hp1 := putB_len w x
        exact ⟨_, e, h.buf (by rw [List.length_append]; omega) (fun y hy => by
          rcases List.mem_append.mp hy with q | q
          · exact h.2.2.2.1 y q
          · exact putB_lt w x y q)⟩
      · rw [if_neg (fun q => nI_ge (show 500 - bs.length < x by omega) (by omega) q.2.2)]
        rw [if_neg (show ¬ nI (bs.length + x) ≤ 500 from nI_ge (a := 500) (by omega) (by omega))] at e
        exact ⟨S, e, h, Agr.rf⟩
    · rw [if_neg (fun q => h2 q.2.1)]
      rw [if_neg (by rw [decide_eq_false (fun q => h2 q.2)]; decide)] at e
      exact ⟨S, e, h, Agr.rf⟩
end REF4b
