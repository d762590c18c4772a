/-! the reference: small methods -/
theorem inR {p : Int32} {n : Nat} (hn : n ≤ 10000) : (0 ≤ p ∧ p ≤ nI n - 1) ↔ (¬ p < 0 ∧ p < nI n) := by
  have e1 := pk_sub_toInt (a := n) (b := 1) (by omega) (by omega)
  have e2 := nI_toInt (n := n) (by omega)
  rw [show nI n - 1 = nI n - nI 1 from rfl, Int32.not_lt, Int32.le_iff_toInt_le (x := p) (y := nI n - nI 1), Int32.lt_iff_toInt_lt, e1, e2]
  constructor
  · rintro ⟨a, b⟩; exact ⟨a, by omega⟩
  · rintro ⟨a, b⟩; exact ⟨a, by omega⟩
theorem lt_nat {p : Int32} {n : Nat} (h0 : ¬ p < 0) (h1 : p < nI n) (hn : n ≤ 10000) : ∃ x : Nat, x < n ∧ p = nI x := by
  obtain ⟨x, hx, rfl⟩ := nat_of (N := n) h0 (Int32.le_of_lt h1) (by omega)
  refine ⟨x, ?_, rfl⟩
  by_cases q : x < n
  · exact q
  · exact absurd h1 (nI_nlt (by omega) (by omega))
section REF5
variable {S : vSt} {bs : List Nat} {os cs : List Obj} {rf wn hv : List Int32}
theorem buf_set {x y : Nat} (h : BufIs S bs) (hx : x < bs.length) : au S 250 ((S.2 250).set x (nI y)) = rowSet S 249 250 (bs.set x y) := by
  have e : (S.2 250).set x (nI y) = (bs.set x y).map nI ++ (S.2 250).drop bs.length := by
    have e2 : (S.2 250).set x (nI y) = (bs.map nI ++ (S.2 250).drop bs.length).set x (nI y) := by rw [← h.2.2.1, List.take_append_drop]
    rw [e2, List.set_append_left _ _ (by rw [List.length_map]; exact hx), List.map_set]
  have e3 : fu S 249 1 (nI (bs.set x y).length) = S := by
    rw [List.length_set]
    refine Prod.ext ?_ rfl
    funext b j
    by_cases hb : b = 249
    · by_cases hj : j = 1
      · subst hb; subst hj; rw [fu_at, h.1]
      · rw [fu_k _ _ hj]
    · rw [fu_a _ _ hb]
  rw [e, rowSet, e3, List.length_set]
theorem buf_cut {x : Nat} (h : BufIs S bs) (hx : x ≤ bs.length) : fu S 249 1 (nI x) = rowSet S 249 250 (bs.take x) := by
  have e1 : (bs.take x).length = x := by rw [List.length_take]; omega
  have e2 : (bs.take x).map nI ++ (S.2 250).drop x = S.2 250 := by
    rw [List.map_take, ← h.2.2.1, List.take_take, Nat.min_eq_left hx, List.take_append_drop]
  rw [rowSet, e1, e2]
  exact (au_self rfl).symm
theorem w_at (h : ModIs S (bs, os, cs, rf, wn, hv)) (p : Int32) : RMeth S 30 [.int p] (rget bs p) (bs, os, cs, rf, wn, hv) := by
  have b5 : bs.length ≤ 500 := h.2.2.1
  have hB : BufIs S bs := h.2.1
  refine ⟨S, ?_, h, Agr.rf⟩
  have e : callv 30 [.ref 249, .int p] (hp S) = if decide (0 ≤ p ∧ p ≤ nI bs.length - 1) = true then runv 30 14 [some (.ref 249), some (.int p)] [] (hp S) else some (some (.int (-1)), hp S) := by
    show runv 30 0 [some (.ref 249), some (.int p)] [] (hp S) = _
    simp only [s30_0, s30_1, s30_2, s30_3, s30_6, s30_7, s30_8, s30_11, s30_23, s30_24, q1, hB.1, List.length_cons, List.length_nil, Nat.reduceAdd, Nat.reduceLeDiff, Nat.zero_le, c_in, vbind_some, vpush_some, if_bI]
  rw [e]
  unfold rget
  by_cases h1 : p < 0
  · rw [if_pos h1, if_neg (by rw [decide_eq_false (fun q => (inR (by omega)).mp q |>.1 h1)]; decide)]
  · rw [if_neg h1]
    by_cases h2 : p < nI bs.length
    · rw [if_pos h2, if_pos (decide_eq_true ((inR (by omega)).mpr ⟨h1, h2⟩))]
      obtain ⟨x, hx, rfl⟩ := lt_nat h1 h2 (by omega)
      simp only [s30_14, s30_15, s30_18, s30_19, s30_20, s30_23, s30_24, q0, ga rfl hB.2.1 (show x < 640 by omega) (by omega), hB.get hx]
      rw [nI_clamp (by omega)]
    · rw [if_neg h2, if_neg (by rw [decide_eq_false (fun q => h2 ((inR (by omega)).mp q).2)]; decide)]
theorem w_cut (h : ModIs S (bs, os, cs, rf, wn, hv)) (p : Int32) : if ¬ p < 0 ∧ p ≤ nI bs.length then RMeth S 28 [.int p] 1 (bs.take p.toNatClampNeg, os, cs, rf, wn, hv) else RMeth S 28 [.int p] 0 (bs, os, cs, rf, wn, hv) := by
  have b5 : bs.length ≤ 500 := h.2.2.1
  have hB : BufIs S bs := h.2.1
  have e : callv 28 [.ref 249, .int p] (hp S) = if decide (0 ≤ p ∧ p ≤ nI bs.length) = true then some (some (.int 1), hp (fu S 249 1 p)) else some (some (.int 0), hp S) := by
    show runv 28 0 [some (.ref 249), some (.int p)] [] (hp S) = _
    simp only [s28_0, s28_1, s28_2, s28_3, s28_6, s28_9, s28_12, s28_13, s28_14, s28_15, s28_16, s28_19, s28_20, q1, q1p, hB.1, List.length_cons, List.length_nil, Nat.reduceAdd, Nat.reduceLeDiff, Nat.zero_le, c_in, vbind_some, vpush_some, if_bI, vb0, vb1]
  by_cases q : ¬ p < 0 ∧ p ≤ nI bs.length
  · rw [if_pos q]
    rw [if_pos (decide_eq_true ⟨Int32.not_lt.mp q.1, q.2⟩)] at e
    obtain ⟨x, hx, rfl⟩ := nat_of q.1 q.2 (by omega)
    rw [buf_cut hB hx] at e
    rw [nI_clamp (by omega)]
    exact ⟨_, e, h.buf (by rw [List.length_take]; omega) (fun y hy => h.2.2.2.1 y (List.mem_of_mem_take hy))⟩
  · rw [if_neg q]
    rw [if_neg (by rw [decide_eq_false (fun z => q ⟨Int32.not_lt.mpr z.1, z.2⟩)]; decide)] at e
    exact ⟨S, e, h, Agr.rf⟩
theorem w_set (h : ModIs S (bs, os, cs, rf, wn, hv)) (p : Int32) (b : Int32) : if ¬ b < 0 ∧ b ≤ 255 ∧ ¬ p < 0 ∧ p < nI bs.length then RMeth S 27 [.int p, .int b] 1 (bs.set p.toNatClampNeg b.toNatClampNeg, os, cs, rf, wn, hv) else RMeth S 27 [.int p, .int b] 0 (bs, os, cs, rf, wn, hv) := by
  have b5 : bs.length ≤ 500 := h.2.2.1
  have hB : BufIs S bs := h.2.1
  have e : callv 27 [.ref 249, .int p, .int b] (hp S) = if decide (0 ≤ p ∧ p ≤ nI bs.length - 1) = true then (if decide (0 ≤ b ∧ b ≤ 255) = true then runv 27 27 [some (.ref 249), some (.int p), some (.int b)] [] (hp S) else some (some (.int 0), hp S)) else some (some (.int 0), hp S) := by
    show runv 27 0 [some (.ref 249), some (.int p), some (.int b)] [] (hp S) = _
    simp only [s27_0, s27_1, s27_2, s27_3, s27_6, s27_7, s27_8, s27_11, s27_14, s27_15, s27_16, s27_19, s27_22, s27_25, s27_26, q1, hB.1, List.length_cons, List.length_nil, Nat.reduceAdd, Nat.reduceLeDiff, Nat.zero_le, c_in, vbind_some, vpush_some, if_bI, vb0]
  by_cases q : ¬ b < 0 ∧ b ≤ 255 ∧ ¬ p < 0 ∧ p < nI bs.length
  · rw [if_pos q]
    obtain ⟨q1', q2', q3', q4'⟩ := q
    rw [if_pos (decide_eq_true ((inR (by omega)).mpr ⟨q3', q4'⟩)), if_pos (decide_eq_true ⟨Int32.not_lt.mp q1', q2'⟩)] at e
    obtain ⟨x, hx, rfl⟩ := lt_nat q3' q4' (by omega)
    obtain ⟨y, hy, rfl⟩ := nat_of (N := 255) q1' q2' (by omega)
    simp only [s27_27, s27_28, s27_31, s27_32, s27_33, s27_34, s27_35, q0, gs (x := nI y) rfl hB.2.1 (show x < 640 by omega) (by omega), buf_set hB hx, vb1] at e
    rw [nI_clamp (by omega), nI_clamp (by omega)]
    exact ⟨_, e, h.buf (by rw [List.length_set]; exact b5) (fun z hz => by
      rcases List.mem_or_eq_of_mem_set hz with w | w
      · exact h.2.2.2.1 z w
      · omega)⟩
  · rw [if_neg q]
    by_cases z1 : ¬ p < 0 ∧ p < nI bs.length
    · rw [if_pos (decide_eq_true ((inR (by omega)).mpr z1)), if_neg (by rw [decide_eq_false (fun z => q ⟨Int32.not_lt.mpr z.1, z.2, z1⟩)]; decide)] at e
      exact ⟨S, e, h, Agr.rf⟩
    · rw [if_neg (by rw [decide_eq_false (fun z => z1 ((inR (by omega)).mp z))]; decide)] at e
      exact ⟨S, e, h, Agr.rf⟩
theorem w_ref (h : ModIs S (bs, os, cs, rf, wn, hv)) (r : Int32) : RMeth S 43 [.int r] (if ¬ r < 0 ∧ r < 4 then rf.getD r.toNatClampNeg 0 else -1) (bs, os, cs, rf, wn, hv) := by
  have h7 : S.2 256 = rf := h.2.2.2.2.2.2.1
  have hL := h.1
  refine ⟨S, ?_, h, Agr.rf⟩
  have e : callv 43 [.ref 249, .int r] (hp S) = if decide (0 ≤ r ∧ r ≤ 3) = true then runv 43 9 [some (.ref 249), some (.int r)] [] (hp S) else some (some (.int (-1)), hp S) := by
    show runv 43 0 [some (.ref 249), some (.int r)] [] (hp S) = _
    simp only [s43_0, s43_1, s43_2, s43_3, s43_6, s43_18, s43_19, List.length_cons, List.length_nil, Nat.reduceAdd, Nat.reduceLeDiff, Nat.zero_le, c_in, vbind_some, vpush_some, if_bI]
  rw [e]
  have e4 : (0 ≤ r ∧ r ≤ 3) ↔ (¬ r < 0 ∧ r < 4) := inR (n := 4) (by omega)
  by_cases q : ¬ r < 0 ∧ r < 4
  · rw [if_pos q, if_pos (decide_eq_true (e4.mpr q))]
    obtain ⟨x, hx, rfl⟩ := lt_nat (n := 4) q.1 q.2 (by omega)
    simp only [s43_9, s43_10, s43_13, s43_14, s43_15, s43_18, s43_19, q8, ga rfl hL.2.2.2.2.2.2.1 hx (by omega), h7]
    rw [nI_clamp (by omega)]
  · rw [if_neg q, if_neg (by rw [decide_eq_false (fun z => q (e4.mp z))]; decide)]
end REF5
