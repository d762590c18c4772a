/-! the class: store -/
theorem isItem_d : isItem 128 129 130 := ⟨rfl, rfl, rfl⟩
section CLS5
variable {S : vSt} {bs : List Nat} {os cs : List Obj} {rf wn hv : List Int32}
/-- what store answers, and buffer and server after it -/
noncomputable def sto (bs : List Nat) (os : List Obj) (k : Nat) : Int32 × List Nat × List Obj := match fIdx os (nI (oid k bs)) with
  | some j => if os[j]? = some (k, bs) then (nI (oid k bs), [], os) else (-1, bs, os)
  | none => @ite (Int32 × List Nat × List Obj) (os.length < 16 ∧ wfO k bs ∧ allNm os (k, bs) 0) (Classical.propDecidable _) (nI (oid k bs), [], os ++ [(k, bs)]) (-1, bs, os)
theorem m_store0 (h : ClsIs S (bs, os, cs, rf, wn, hv)) (k : Int32) (hk : ¬ (¬ k < 1 ∧ k ≤ 3 ∧ bs.length ≤ 24)) : Meth S 6 [.int k] (-1) (bs, os, cs, rf, wn, hv) := by
  have t := rowt (S := S) isRow_o
  have b5 : bs.length ≤ 500 := h.1.2.2.2.2.1
  refine ⟨S, ?_, h, Agr.rf⟩
  show runv 6 0 [some (.ref 1), some (.int k), none] [] (hp S) = _
  simp only [s6_0, s6_1, s6_2, s6_5, s6_6, s6_7, s6_10, s6_11, s6_14, s6_17, s6_19, s6_22, s6_23, p0, List.length_cons, List.length_nil, Nat.reduceAdd, Nat.reduceLeDiff, Nat.zero_le, t, c_used h.1, vbind_some, vpush_some]
  by_cases h1 : k < 1
  · rw [if_pos h1]
  · rw [if_neg h1]
    by_cases h2 : 3 < k
    · rw [if_pos h2]
    · rw [if_neg h2]
      have h3 : ¬ bs.length ≤ 24 := fun q => hk ⟨h1, Int32.not_lt.mp h2, q⟩
      rw [if_neg (show ¬ nI bs.length ≤ 24 from nI_ge (a := 24) (by omega) (by omega))]
theorem m_store (h : ClsIs S (bs, os, cs, rf, wn, hv)) {k : Nat} (hk1 : 1 ≤ k) (hk3 : k ≤ 3) (hb : bs.length ≤ 24) : Meth S 6 [.int (nI k)] (sto bs os k).1 ((sto bs os k).2.1, (sto bs os k).2.2, cs, rf, wn, hv) := by
  have h0 := h
  obtain ⟨h1, h2, h3, h4, h5, h6, h7, h8, h9⟩ := h
  simp only at h1 h2 h3 h4 h5 h6 h7 h8
  have tr := fun S => rowt (S := S) isRow_o
  have ti := fun S => itt (S := S) isItem_d
  have ts := fun S => sht (S := S) h3.1
  have hle : os.length ≤ 16 := h3.2.1
  have ef := c_fill (k := k) isItem_d h9.1 h1 h2 (by omega) (by omega) hb
  have hD := ItemIs.set (S := S) (k := k) (bs := bs) isItem_d h9.1 h2 hk3 hb
  have FD : Fr S (itemSet S 128 129 130 k bs) (fun b _ => b = 128 ∨ b = 129) (fun b => b = 130) := Fr.item (fun j => Or.inl rfl) (Or.inr rfl) rfl
  have FS : Fr S (itemSet S 128 129 130 k bs) PS AS := FD.mono (fun b j q => ⟨by omega, by omega, by omega, by omega⟩) (fun b q => ⟨by omega, by omega, by omega, by omega, by omega⟩)
  generalize itemSet S 128 129 130 k bs = D at *
  have hLD : Lens D := by
    have hc : callv 100 [.ref 128, .int (nI k), .ref 2] (hp S) = some (none, hp D) := ef
    exact h9.keep hc
  have hD0 : ClsIs D (bs, os, cs, rf, wn, hv) := h0.sc FS hLD
  have hSD : ShelfIs D 4 16 os := hD0.2.2.1
  have hBD : RowIs D 2 3 500 bs := hD0.1
  have agD : Agr S D 249 300 := FS.agr (fun b j q => q.2.1) (fun b q => q.2.1)
  have hid := oid_lt k bs
  have st : callv 6 [.ref 1, .int (nI k)] (hp S) = if oI (fIdx os (nI (oid k bs))) < 0 then runv 6 75 [some (.ref 1), some (.int (nI k)), some (.int (oI (fIdx os (nI (oid k bs)))))] [] (hp D) else runv 6 55 [some (.ref 1), some (.int (nI k)), some (.int (oI (fIdx os (nI (oid k bs)))))] [] (hp D) := by
    show runv 6 0 [some (.ref 1), some (.int (nI k)), none] [] (hp S) = _
    simp only [s6_0, s6_1, s6_2, s6_5, s6_6, s6_7, s6_10, s6_11, s6_14, s6_17, s6_19, p0, List.length_cons, List.length_nil, Nat.reduceAdd, Nat.reduceLeDiff, Nat.zero_le, tr, c_used h1, vbind_some, vpush_some]
    rw [if_neg (show ¬ nI k < 1 from nI_nlt (b := 1) (by omega) (by omega)), if_neg (show ¬ 3 < nI k from nI_nlt (a := 3) (by omega) (by omega)), if_pos (show nI bs.length ≤ 24 from nI_le (b := 24) (by omega) (by omega))]
    simp only [s6_24, s6_25, s6_28, s6_29, s6_30, s6_33, s6_36, s6_37, s6_40, s6_41, s6_44, s6_47, s6_50, s6_51, s6_52, p0, p1, p3, List.length_cons, List.length_nil, Nat.reduceAdd, Nat.reduceLeDiff, Nat.zero_le, tr, ti, ts, ef, c_id isItem_d, hD.2.2.2.1, c_find hSD, vbind_some, vpush_some, vpush_none]
  have last : ∀ (E : vSt) (v2 : Option Value), RowIs E 2 3 500 bs → E.1 128 2 = nI (oid k bs) → runv 6 122 [some (.ref 1), some (.int (nI k)), v2] [] (hp E) = some (some (.int (nI (oid k bs))), hp (rowSet E 2 3 [])) := by
    intro E v2 hB hE
    have hE2 : (rowSet E 2 3 []).1 128 2 = nI (oid k bs) := by rw [rowSet, au_1, fu_a _ _ (by omega), hE]
    simp only [s6_122, s6_123, s6_126, s6_129, s6_130, s6_133, s6_136, p0, p3, List.length_cons, List.length_nil, Nat.reduceAdd, Nat.reduceLeDiff, Nat.zero_le, tr, ti, c_clear hB, c_id isItem_d, hE2, vbind_some, vpush_some, vpush_none]
  unfold sto
  cases hf : fIdx os (nI (oid k bs)) with
  | some j =>
    have hj := fIdx_lt hf
    have hit := hSD.2.2.2.1 j _ (List.getElem?_eq_getElem hj)
    have tj := fun S => itt (S := S) hit.1
    rw [hf, if_neg (show ¬ oI (some j) < 0 from nI_pos (by omega))] at st
    have e2 : runv 6 55 [some (.ref 1), some (.int (nI k)), some (.int (oI (some j)))] [] (hp D) = if decide (os[j].1 = k ∧ os[j].2 = bs) = true then runv 6 122 [some (.ref 1), some (.int (nI k)), some (.int (oI (some j)))] [] (hp D) else some (some (.int (-1)), hp D) := by
      simp only [s6_55, s6_56, s6_59, s6_60, s6_63, s6_64, s6_67, s6_70, s6_73, s6_74, p1, p3, oI, List.length_cons, List.length_nil, Nat.reduceAdd, Nat.reduceLeDiff, Nat.zero_le, ts, tj, c_shGet hSD.1 (show j < 16 by omega), c_itemSame hit hD, vbind_some, vpush_some, if_bI]
    rw [e2] at st
    simp only [List.getElem?_eq_getElem hj]
    by_cases q : os[j].1 = k ∧ os[j].2 = bs
    · rw [if_pos (decide_eq_true q), last D _ hBD hD.2.2.2.1] at st
      rw [if_pos (congrArg some (Prod.ext q.1 q.2))]
      have := hD0.row (ds := []) (by simp) (by simp)
      exact ⟨_, st, this.1, agD.tr this.2⟩
    · rw [if_neg (by rw [decide_eq_false q]; decide)] at st
      rw [if_neg (fun z => q (by rw [Option.some.inj z]; exact ⟨rfl, rfl⟩))]
      exact ⟨D, st, hD0, agD⟩
  | none =>
    simp only
    rw [hf, if_pos (show oI none < 0 by decide)] at st
    obtain ⟨b1, w1, w2⟩ := c_wellFormed hD
    obtain ⟨b2, u1, u2⟩ := c_holdsAll (o := (k, bs)) hSD hD
    have e2 : runv 6 75 [some (.ref 1), some (.int (nI k)), some (.int (oI none))] [] (hp D) = if nI (16 - os.length) = 0 then some (some (.int (-1)), hp D) else if b1 = true then (if b2 = true then runv 6 111 [some (.ref 1), some (.int (nI k)), some (.int (oI none))] [] (hp D) else some (some (.int (-1)), hp D)) else some (some (.int (-1)), hp D) := by
      simp only [s6_75, s6_76, s6_79, s6_82, s6_85, s6_86, s6_89, s6_92, s6_95, s6_96, s6_99, s6_100, s6_103, s6_106, s6_109, s6_110, p1, p3, List.length_cons, List.length_nil, Nat.reduceAdd, Nat.reduceLeDiff, Nat.zero_le, ts, ti, c_shLeft hSD, w2, u2, vbind_some, vpush_some, if_bI]
    rw [e2] at st
    have e0 : (nI (16 - os.length) = 0) = (16 - os.length = 0) := nI_inj (b := 0) (by omega) (by omega)
    by_cases q1 : os.length < 16
    · rw [if_neg (show ¬ nI (16 - os.length) = 0 from fun z => by rw [e0] at z; omega)] at st
      by_cases q2 : wfO k bs
      · rw [if_pos (w1.mpr q2)] at st
        by_cases q3 : allNm os (k, bs) 0
        · rw [if_pos (u1.mpr q3)] at st
          rw [if_pos ⟨q1, q2, q3⟩]
          have ek := c_keep hSD hD q1 (by omega)
          have hP := hSD.push (k := k) (bs := bs) q1 h2 hk3 hb
          have FP : Fr D (shPush D 4 os.length k bs) (fun b _ => 4 ≤ b ∧ b < 54) (fun b => 4 ≤ b ∧ b < 54) := by
            unfold shPush
            exact (Fr.item (fun j => ⟨by omega, by omega⟩) ⟨by omega, by omega⟩ ⟨by omega, by omega⟩).tr (Fr.fu ⟨by omega, by omega⟩)
          have e3 : runv 6 111 [some (.ref 1), some (.int (nI k)), some (.int (oI none))] [] (hp D) = runv 6 122 [some (.ref 1), some (.int (nI k)), some (.int (oI none))] [] (hp (shPush D 4 os.length k bs)) := by
            simp only [s6_111, s6_112, s6_115, s6_116, s6_119, p1, p3, List.length_cons, List.length_nil, Nat.reduceAdd, Nat.reduceLeDiff, Nat.zero_le, ts, ek, vbind_some, vpush_none]
          have hBP : RowIs (shPush D 4 os.length k bs) 2 3 500 bs := hBD.fr FP (by omega) (by omega)
          rw [e3, last _ _ hBP (by rw [FP.1 _ _ (by omega), hD.2.2.2.1])] at st
          obtain ⟨d1, d2, d3, d4, d5, d6, d7, d8, d9⟩ := hD0
          have hP0 : ClsIs (shPush D 4 os.length k bs) (bs, os ++ [(k, bs)], cs, rf, wn, hv) := ⟨hBP, d2, hP, d4.fr FP (fun b j q => by omega) (fun b q => by omega), by rw [FP.2 131 (by omega)]; exact d5, d6, d7.fr FP (by omega) (by omega), d8.fr FP (by omega) (by omega), d9.fr FP (fun b q => by omega)⟩
          have := hP0.row (ds := []) (by simp) (by simp)
          exact ⟨_, st, this.1, (agD.tr (FP.agr (fun b j q => by omega) (fun b q => by omega))).tr this.2⟩
        · rw [if_neg (fun z => q3 (u1.mp z))] at st
          rw [if_neg (fun z => q3 z.2.2)]
          exact ⟨D, st, hD0, agD⟩
      · rw [if_neg (fun z => q2 (w1.mp z))] at st
        rw [if_neg (fun z => q2 z.2.1)]
        exact ⟨D, st, hD0, agD⟩
    · rw [if_pos (show nI (16 - os.length) = 0 by rw [e0]; omega)] at st
      rw [if_neg (fun z => q1 z.1)]
      exact ⟨D, st, hD0, agD⟩
end CLS5
