/-! the class: buffers, refs, lists -/
theorem nat_of {b : Int32} {N : Nat} (h0 : ¬ b < 0) (h1 : b ≤ nI N) (hN : N < 2 ^ 31) : ∃ x : Nat, x ≤ N ∧ b = nI x := by
  have i0 : (0 : Int) ≤ b.toInt := by
    have := mt Int32.lt_iff_toInt_lt.mpr h0
    simpa using this
  have i1 : b.toInt ≤ N := by
    have := Int32.le_iff_toInt_le.mp h1
    rwa [nI_toInt hN] at this
  refine ⟨b.toInt.toNat, by omega, ?_⟩
  apply Int32.toInt_inj.mp
  rw [nI_toInt (by omega)]
  omega
def byt (w : Int32) (i : Nat) : Nat := ((w >>> ((8 * nI i) &&& 31)) &&& 255).toBitVec.toNat
theorem byt_eq (w : Int32) (i : Nat) : (w >>> ((8 * nI i) &&& 31)) &&& 255 = nI (byt w i) := by
  unfold byt nI
  apply Int32.toBitVec_inj.mp
  rw [Int32.toBitVec_ofNat', BitVec.ofNat_toNat, BitVec.setWidth_eq]
theorem byt_lt (w : Int32) (i : Nat) : byt w i < 256 := by
  unfold byt
  rw [Int32.toBitVec_and, BitVec.toNat_and]
  have : (255 : Int32).toBitVec.toNat = 255 := rfl
  rw [this]
  have := Nat.and_le_right (n := (w >>> ((8 * nI i) &&& 31)).toBitVec.toNat) (m := 255)
  omega
def putB (w : Int32) : Nat → List Nat
  | 0 => []
  | k + 1 => byt w k :: putB w k
theorem putB_len (w : Int32) (k : Nat) : (putB w k).length = k := by
  induction k with
  | zero => rfl
  | succ k ih => unfold putB; rw [List.length_cons, ih]
theorem putB_lt (w : Int32) (k : Nat) : ∀ x ∈ putB w k, x < 256 := by
  induction k with
  | zero => intro x hx; cases hx
  | succ k ih =>
    intro x hx
    unfold putB at hx
    rcases List.mem_cons.mp hx with q | q
    · rw [q]; exact byt_lt _ _
    · exact ih x q
theorem c_put_loop {w : Int32} {v2 : Option Value} : ∀ k bs S, RowIs S 2 3 500 bs → bs.length + k ≤ 500 → k ≤ 4 → runv 1 27 [some (.ref 1), some (.int w), v2, some (.int (nI k - 1))] [] (hp S) = some (some (.int 1), hp (rowSet S 2 3 (bs ++ putB w k))) := by
  intro k
  induction k with
  | zero =>
    intro bs S hR hl hk
    rw [s1_27]
    simp only [s1_28, s1_54, s1_55, vb1]
    rw [if_pos (by decide)]
    show _ = some (some (Value.int 1), hp (rowSet S 2 3 (bs ++ [])))
    rw [List.append_nil, rowSet_self hR]
  | succ k ih =>
    intro bs S hR hl hk
    have t := fun S => rowt (S := S) isRow_o
    have e1 := c_add hR (x := byt w k) (by omega)
    have hR1 := hR.set (cs := bs ++ [byt w k]) (by rw [List.length_append, List.length_singleton]; omega)
    have e2 := ih (bs ++ [byt w k]) _ hR1 (by rw [List.length_append, List.length_singleton]; omega) (by omega)
    rw [rowSet_grow (by simp), List.append_assoc] at e2
    rw [s1_27]
    simp only [s1_28, s1_31, s1_32, s1_35, s1_36, s1_38, s1_39, s1_40, s1_41, s1_44, s1_45, s1_48, s1_51, p0, nI_pred, List.length_cons, List.length_nil, Nat.reduceAdd, Nat.reduceLeDiff, Nat.zero_le, t, byt_eq, e1, vbind_some, vpush_none, show ∀ x : Int32, x + (-1) = x - 1 from fun x => (Int32.sub_eq_add_neg x 1).symm]
    rw [if_neg (nI_pos (by omega)), e2]
    rfl
section CLS2
variable {S : vSt} {bs : List Nat} {os cs : List Obj} {rf wn hv : List Int32}
theorem m_put (h : ClsIs S (bs, os, cs, rf, wn, hv)) (w n : Int32) : if ¬ n < 1 ∧ n ≤ 4 ∧ n ≤ nI (500 - bs.length) then Meth S 1 [.int w, .int n] 1 (bs ++ putB w n.toNatClampNeg, os, cs, rf, wn, hv) else Meth S 1 [.int w, .int n] 0 (bs, os, cs, rf, wn, hv) := by
  have t := rowt (S := S) isRow_o
  have b5 : bs.length ≤ 500 := h.1.2.2.2.2.1
  have e : callv 1 [.ref 1, .int w, .int n] (hp S) = if n < 1 then some (some (.int 0), hp S) else if 4 < n then some (some (.int 0), hp S) else if n ≤ nI (500 - bs.length) then runv 1 27 [some (.ref 1), some (.int w), some (.int n), some (.int (n - 1))] [] (hp S) else some (some (.int 0), hp S) := by
    show runv 1 0 [some (.ref 1), some (.int w), some (.int n), none] [] (hp S) = _
    simp only [s1_0, s1_1, s1_2, s1_5, s1_6, s1_7, s1_10, s1_11, s1_12, s1_15, s1_18, s1_21, s1_22, s1_23, s1_24, s1_25, s1_26, p0, List.length_cons, List.length_nil, Nat.reduceAdd, Nat.reduceLeDiff, Nat.zero_le, t, c_left h.1, vbind_some, vpush_some, vb0]
  by_cases h1 : n < 1
  · rw [if_neg (fun q => q.1 h1)]
    rw [if_pos h1] at e
    exact ⟨S, e, h, Agr.rf⟩
  · rw [if_neg h1] at e
    by_cases h2 : 4 < n
    · rw [if_neg (fun q => Int32.not_le.mpr h2 q.2.1)]
      rw [if_pos h2] at e
      exact ⟨S, e, h, Agr.rf⟩
    · rw [if_neg h2] at e
      by_cases h3 : n ≤ nI (500 - bs.length)
      · rw [if_pos ⟨h1, Int32.not_lt.mp h2, h3⟩]
        rw [if_pos h3] at e
        obtain ⟨x, hx, rfl⟩ := nat_of (N := 4) (fun q => h1 (Int32.lt_trans q (by decide))) (Int32.not_lt.mp h2) (by omega)
        have hx2 : x ≤ 500 - bs.length := by
          by_cases q : x ≤ 500 - bs.length
          · exact q
          · exact absurd h3 (nI_ge (by omega) (by omega))
        rw [c_put_loop x bs S h.1 (by omega) hx] at e
        rw [nI_clamp (by omega)]
        have hp1 := putB_len w x
        exact ⟨_, e, h.row (by rw [List.length_append]; omega) (fun y hy => by
          rcases List.mem_append.mp hy with q | q
          · exact h.2.1 y q
          · exact putB_lt w x y q)⟩
      · rw [if_neg (fun q => h3 q.2.2)]
        rw [if_neg h3] at e
        exact ⟨S, e, h, Agr.rf⟩
theorem sk131 : sk[131]? = some (100, []) := rfl
theorem m_ref (h : ClsIs S (bs, os, cs, rf, wn, hv)) (r : Int32) : Meth S 8 [.int r] (if ¬ r < 0 ∧ r < 4 then rf.getD r.toNatClampNeg 0 else -1) (bs, os, cs, rf, wn, hv) := by
  have h5 : S.2 131 = rf := h.2.2.2.2.1
  have h6 : rf.length = 4 := h.2.2.2.2.2.1
  refine ⟨S, ?_, h, Agr.rf⟩
  have e : callv 8 [.ref 1, .int r] (hp S) = if r < 0 then some (some (.int (-1)), hp S) else if r < 4 then runv 8 13 [some (.ref 1), some (.int r)] [] (hp S) else some (some (.int (-1)), hp S) := by
    show runv 8 0 [some (.ref 1), some (.int r)] [] (hp S) = _
    simp only [s8_0, s8_1, s8_4, s8_5, s8_6, s8_9, s8_10, s8_19]
  rw [e]
  by_cases h1 : r < 0
  · rw [if_pos h1, if_neg (fun q => q.1 h1)]
  · rw [if_neg h1]
    by_cases h2 : r < 4
    · rw [if_pos h2, if_pos ⟨h1, h2⟩]
      obtain ⟨x, hx, rfl⟩ := nat_of (N := 4) h1 (Int32.le_of_lt h2) (by omega)
      have hx3 : x < 4 := by
        by_cases q : x < 4
        · exact q
        · exact absurd h2 (nI_nlt (b := 4) (by omega) (by omega))
      simp only [s8_13, s8_14, s8_17, s8_18, s8_19, p4]
      rw [arg sk131 (show x < (S.2 131).length by rw [h5]; omega) (by rw [h5]; omega), s8_19, h5, nI_clamp (by omega)]
    · rw [if_neg h2, if_neg (fun q => h2 q.2)]
theorem ClsIs.refs (h : ClsIs S (bs, os, cs, rf, wn, hv)) {xs : List Int32} (hl : xs.length = 4) : ClsIs (au S 131 xs) (bs, os, cs, xs, wn, hv) ∧ Agr S (au S 131 xs) 249 300 := by
  obtain ⟨h1, h2, h3, h4, h5, h6, h7, h8, h9⟩ := h
  have F : Fr S (au S 131 xs) (fun _ _ => False) (fun b => b = 131) := ⟨fun b j _ => rfl, fun b hb => au_a S xs hb⟩
  have n2 : ∀ a, a ≠ 131 → (au S 131 xs).2 a = S.2 a := fun a ha => F.2 a ha
  refine ⟨⟨h1.fr F (fun q => q) (by omega), h2, h3.fr F (fun b j q => q.elim) (fun b q => by omega), h4.fr F (fun b j q => q.elim) (fun b q => by omega), au_at _ _ _, hl, h7.fr F (fun q => q) (by omega), h8.fr F (fun q => q) (by omega), ?_⟩, F.agr (fun b j q => q.elim) (fun b q => by omega)⟩
  obtain ⟨k1, k2, k3, k4, k5, ⟨g1, g2, g3, g4, g5⟩, k7, k8⟩ := h9
  exact ⟨by rw [n2 _ (by omega), k1], by rw [n2 _ (by omega), k2], by rw [n2 _ (by omega), k3], by rw [n2 _ (by omega), k4], by rw [n2 _ (by omega), k5], ⟨by rw [n2 _ (by omega), g1], by rw [n2 _ (by omega), g2], by rw [n2 _ (by omega), g3], by rw [n2 _ (by omega), g4], by rw [n2 _ (by omega), g5]⟩, fun e he => by rw [n2 _ (by omega), k7 e he], fun e he => by rw [n2 _ (by omega), k8 e he]⟩
def isCm (os : List Obj) (id : Int32) : Bool := match fIdx os id with
  | some j => decide ((os.getD j (0, [])).1 = 1)
  | none => false
theorem m_point (h : ClsIs S (bs, os, cs, rf, wn, hv)) (r id : Int32) : if ¬ r < 0 ∧ r < 4 ∧ isCm os id = true then Meth S 7 [.int r, .int id] 1 (bs, os, cs, rf.set r.toNatClampNeg id, wn, hv) else Meth S 7 [.int r, .int id] 0 (bs, os, cs, rf, wn, hv) := by
  have h5 : S.2 131 = rf := h.2.2.2.2.1
  have h6 : rf.length = 4 := h.2.2.2.2.2.1
  have hS : ShelfIs S 4 16 os := h.2.2.1
  have t := sht (S := S) hS.1
  have e : callv 7 [.ref 1, .int r, .int id] (hp S) = if r < 0 then some (some (.int 0), hp S) else if r < 4 then (if oI (fIdx os id) < 0 then some (some (.int 0), hp S) else runv 7 24 [some (.ref 1), some (.int r), some (.int id), some (.int (oI (fIdx os id)))] [] (hp S)) else some (some (.int 0), hp S) := by
    show runv 7 0 [some (.ref 1), some (.int r), some (.int id), none] [] (hp S) = _
    simp only [s7_0, s7_1, s7_4, s7_5, s7_6, s7_9, s7_10, s7_11, s7_12, s7_15, s7_16, s7_19, s7_20, s7_21, s7_39, s7_40, p1, List.length_cons, List.length_nil, Nat.reduceAdd, Nat.reduceLeDiff, Nat.zero_le, t, c_find hS, vbind_some, vpush_some, vb0]
  by_cases h1 : r < 0
  · rw [if_neg (fun q => q.1 h1)]
    rw [if_pos h1] at e
    exact ⟨S, e, h, Agr.rf⟩
  · rw [if_neg h1] at e
    by_cases h2 : r < 4
    · rw [if_pos h2] at e
      unfold isCm
      cases hf : fIdx os id with
      | none =>
        rw [hf, if_pos (show oI none < 0 by decide)] at e
        rw [if_neg (by simp)]
        exact ⟨S, e, h, Agr.rf⟩
      | some j =>
        have hj := fIdx_lt hf
        have hle := hS.2.1
        have hit := hS.2.2.2.1 j _ (List.getElem?_eq_getElem hj)
        have hk := hit.2.2.2.2.2
        have t2 := itt (S := S) hit.1
        have hg : os.getD j (0, []) = os[j] := by rw [List.getD_eq_getElem?_getD, List.getElem?_eq_getElem hj]; rfl
        rw [hf, if_neg (show ¬ oI (some j) < 0 from nI_pos (by omega))] at e
        have e2 : runv 7 24 [some (.ref 1), some (.int r), some (.int id), some (.int (oI (some j)))] [] (hp S) = if os[j].1 = 1 then runv 7 41 [some (.ref 1), some (.int r), some (.int id), some (.int (oI (some j)))] [] (hp S) else some (some (.int 0), hp S) := by
          simp only [s7_24, s7_25, s7_28, s7_29, s7_32, s7_35, s7_36, s7_39, s7_40, p1, oI, List.length_cons, List.length_nil, Nat.reduceAdd, Nat.reduceLeDiff, Nat.zero_le, t, t2, c_shGet hS.1 (show j < 16 by omega), c_sort hit.1, hit.2.2.1, vbind_some, vpush_some, vb0, show (nI os[j].1 = 1) = (os[j].1 = 1) from nI_inj (b := 1) (by omega) (by omega)]
        rw [e2] at e
        simp only [hg, decide_eq_true_eq]
        by_cases h3 : os[j].1 = 1
        · rw [if_pos h3] at e
          rw [if_pos ⟨h1, h2, h3⟩]
          obtain ⟨x, hx, rfl⟩ := nat_of (N := 4) h1 (Int32.le_of_lt h2) (by omega)
          have hx3 : x < 4 := by
            by_cases q : x < 4
            · exact q
            · exact absurd h2 (nI_nlt (b := 4) (by omega) (by omega))
          simp only [s7_41, s7_42, s7_45, s7_46, s7_47, s7_48, s7_49, p4, vb1] at e
          rw [arst sk131 (show x < (S.2 131).length by rw [h5]; omega) (by rw [h5]; omega), h5] at e
          rw [nI_clamp (by omega)]
          exact ⟨_, e, h.refs (by rw [List.length_set]; exact h6)⟩
        · rw [if_neg h3] at e
          rw [if_neg (fun q => h3 q.2.2)]
          exact ⟨S, e, h, Agr.rf⟩
    · rw [if_neg (fun q => h2 q.2.1)]
      rw [if_neg h2] at e
      exact ⟨S, e, h, Agr.rf⟩
end CLS2
