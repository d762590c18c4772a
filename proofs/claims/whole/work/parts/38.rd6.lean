/-! reading packs: the whole pack -/
def rdPack (bs : List Nat) : Nat ⊕ List Ent :=
  if bs[0]? = some 80 then
    if bs[1]? = some 1 then
      if 2 < bs.length ∧ 1 ≤ bs.getD 2 0 ∧ bs.getD 2 0 ≤ 16 then
        match rdEnts bs (bs.getD 2 0) [] 3 with
        | .inl f => .inl f
        | .inr (es, p) =>
          if bs[p]? = some (hashN 7 (bs.take p) / 256) then
            if bs[p + 1]? = some (hashN 7 (bs.take p) % 256) then
              if p + 2 = bs.length then .inr es else .inl (p + 2)
            else .inl (p + 1)
          else .inl p
      else .inl 2
    else .inl 1
  else .inl 0
theorem c_readEntries {S : vSt} {bs : List Nat} (hB : RowIs S 2 3 500 bs) (bb : ∀ x ∈ bs, x < 256) (hpl : S.1 151 4 = nI 2) (hn : S.1 151 3 = nI 0) (hL : ∀ e, e < 16 → (S.2 (155 + 6 * e)).length = 255) : ∃ S1, Fr S S1 PR AR ∧
    match (if 2 < bs.length ∧ 1 ≤ bs.getD 2 0 ∧ bs.getD 2 0 ≤ 16 then rdEnts bs (bs.getD 2 0) [] 3 else .inl 2) with
    | .inl f => callv 115 [.ref 151] (hp S) = some (some (.int 0), hp S1) ∧ S1.1 151 5 = nI f
    | .inr (es, p1) => callv 115 [.ref 151] (hp S) = some (some (.int 1), hp S1) ∧ EntsAt S1 es ∧ S1.1 151 4 = nI p1 ∧ p1 ≤ bs.length := by
  have t1 := fun S => rtR (S := S)
  have e1 := c_next hB bb hpl (by omega) (lo := 1) (hi := 16) (by omega) (by omega)
  have start : callv 115 [.ref 151] (hp S) = vbind (callv 112 [.ref 151, .int (nI 1), .int (nI 16)] (hp S)) (fun v h' => runv 115 7 [some (.ref 151), none, none, none] (vpush v []) h') := by
    show runv 115 0 [some (.ref 151), none, none, none] [] (hp S) = _
    simp only [s115_0, s115_1, s115_2, s115_4, List.length_cons, List.length_nil, Nat.reduceAdd, Nat.reduceLeDiff, Nat.zero_le, t1]
    rfl
  rw [start, e1]
  by_cases h : 2 < bs.length ∧ 1 ≤ bs.getD 2 0 ∧ bs.getD 2 0 ≤ 16
  · rw [if_pos h, if_pos h]
    have hB1 : RowIs (fu S 151 4 (nI (2 + 1))) 2 3 500 bs := hB.fu (by omega)
    have hE0 : EntsAt (fu S 151 4 (nI (2 + 1))) [] := ⟨by rw [fu_k _ _ (by decide), hn]; rfl, by simp, by simp, by simp⟩
    obtain ⟨S1, f1, g1⟩ := c_ents_loop (n := bs.getD 2 0) bb h.2.2 (bs.getD 2 0) [] 3 (fu S 151 4 (nI (2 + 1))) none (by simp) hB1 (fu_at _ _ _ _) (by omega) hE0 hL (by omega)
    refine ⟨S1, (Fr.fu (Or.inl ⟨rfl, by omega⟩)).tr f1, ?_⟩
    have e2 : vbind (some (some (.int (nI (bs.getD 2 0))), hp (fu S 151 4 (nI (2 + 1))))) (fun v h' => runv 115 7 [some (.ref 151), none, none, none] (vpush v []) h') = runv 115 10 [some (.ref 151), some (.int (nI (bs.getD 2 0))), some (.int (nI ([] : List Ent).length)), none] [] (hp (fu S 151 4 (nI (2 + 1)))) := by
      simp only [vbind_some, vpush_some, s115_7, s115_8, s115_9]
      rfl
    rw [e2]
    exact g1
  · rw [if_neg h, if_neg h]
    refine ⟨fu S 151 5 (nI 2), Fr.fu (Or.inl ⟨rfl, by omega⟩), ?_, fu_at _ _ _ _⟩
    simp only [vbind_some, vpush_some, s115_7, s115_8, s115_9]
    rw [s115_10]
    simp only [s115_11, s115_12, s115_64, s115_65, s115_68, s115_69, s115_72, s115_73, vb0]
    rw [if_pos (by decide), if_pos (by decide)]
theorem c_readHash {S : vSt} {p : Nat} {bs : List Nat} (hB : RowIs S 2 3 500 bs) (bb : ∀ x ∈ bs, x < 256) (hpl : S.1 151 4 = nI p) (hp0 : p ≤ bs.length) : callv 121 [.ref 151] (hp S) = if bs[p]? = some (hashN 7 (bs.take p) / 256) then (if bs[p + 1]? = some (hashN 7 (bs.take p) % 256) then some (some (.int 1), hp (fu (fu S 151 4 (nI (p + 1))) 151 4 (nI (p + 1 + 1)))) else some (some (.int 0), hp (fu (fu S 151 4 (nI (p + 1))) 151 5 (nI (p + 1))))) else some (some (.int 0), hp (fu S 151 5 (nI p))) := by
  have b5 := hB.2.2.2.2.1
  have t1 := fun S => rtR (S := S)
  have t2 := fun S => rowt (S := S) isRow_o
  have hh := hashN_lt (h := 7) (bs.take p) (by omega)
  have e1 := c_hashOn hB bb (n := p) (g := 7) (by omega) (by omega)
  generalize hashN 7 (bs.take p) = H at *
  have d : nI H / 256 = nI (H / 256) := pk_div (d := 256) (by omega) (by omega) (by omega)
  have m : nI H - nI (H / 256) * 256 = nI (H % 256) := by rw [← d]; exact pk_rem (d := 256) (by omega) (by omega) (by omega)
  have z256 : ¬ (256 : Int32) = 0 := by decide
  have e2 := c_isNext hB bb hpl (by omega) (b := H / 256) (by omega)
  have hB1 : RowIs (fu S 151 4 (nI (p + 1))) 2 3 500 bs := hB.fu (by omega)
  have e3 := c_isNext hB1 bb (fu_at _ _ _ _) (by omega) (b := H % 256) (by omega)
  have start : callv 121 [.ref 151] (hp S) = vbind (callv 113 [.ref 151, .int (nI (H / 256))] (hp S)) (fun v h' => runv 121 23 [some (.ref 151), some (.int (nI H))] (vpush v []) h') := by
    show runv 121 0 [some (.ref 151), none] [] (hp S) = _
    simp only [s121_0, s121_1, s121_4, s121_6, s121_7, s121_10, s121_13, s121_14, s121_15, s121_16, s121_19, s121_20, r0, r4, hpl, List.length_cons, List.length_nil, Nat.reduceAdd, Nat.reduceLeDiff, Nat.zero_le, t1, t2, show (7 : Int32) = nI 7 from rfl, e1, vbind_some, vpush_some, z256, d, not_false_eq_true]
  have go : ∀ S1 : vSt, runv 121 23 [some (.ref 151), some (.int (nI H))] [.int 1] (hp S1) = vbind (callv 113 [.ref 151, .int (nI (H % 256))] (hp S1)) (fun v h' => runv 121 35 [some (.ref 151), some (.int (nI H))] (vpush v []) h') := fun S1 => by
    rw [s121_23, if_neg (show ¬ (1 : Int32) = 0 by decide)]
    simp only [s121_26, s121_27, s121_28, s121_31, s121_32, List.length_cons, List.length_nil, Nat.reduceAdd, Nat.reduceLeDiff, Nat.zero_le, t1, z256, d, m, not_false_eq_true]
  rw [start, e2]
  by_cases h1 : bs[p]? = some (H / 256)
  · rw [if_pos h1, if_pos h1, vbind_some, vpush_some, go, e3]
    by_cases h2 : bs[p + 1]? = some (H % 256)
    · rw [if_pos h2, vbind_some, vpush_some, s121_35, if_neg (show ¬ (1 : Int32) = 0 by decide)]
      simp only [s121_38, s121_39, s121_42, s121_43, vb1]
    · rw [if_neg h2, vbind_some, vpush_some, s121_35, if_pos rfl]
      simp only [s121_38, s121_39, s121_42, s121_43, vb0]
  · rw [if_neg h1, if_neg h1, vbind_some, vpush_some, s121_23, if_pos rfl]
    simp only [s121_38, s121_39, s121_42, s121_43, vb0]
theorem c_readEnd {S : vSt} {p : Nat} {bs : List Nat} (hB : RowIs S 2 3 500 bs) (hpl : S.1 151 4 = nI p) (hp0 : p ≤ 1000) : callv 122 [.ref 151] (hp S) = if p = bs.length then some (some (.int 1), hp (fu S 151 5 (nI p))) else some (some (.int 0), hp (fu S 151 5 (nI p))) := by
  have b5 := hB.2.2.2.2.1
  have t2 := fun S => rowt (S := S) isRow_o
  have hB1 : RowIs (fu S 151 5 (nI p)) 2 3 500 bs := hB.fu (by omega)
  have e4 : (fu S 151 5 (nI p)).1 151 4 = nI p := by rw [fu_k _ _ (by decide), hpl]
  show runv 122 0 [some (.ref 151)] [] (hp S) = _
  simp only [s122_0, s122_1, s122_2, s122_5, s122_8, s122_9, s122_12, s122_13, s122_16, s122_19, s122_22, s122_23, s122_26, s122_27, r0, r4, r5p, hpl, e4, c_used hB1, List.length_cons, List.length_nil, Nat.reduceAdd, Nat.reduceLeDiff, Nat.zero_le, t2, vbind_some, vpush_some, vb0, vb1]
  have e : (nI p = nI bs.length) = (p = bs.length) := nI_inj (by omega) (by omega)
  by_cases q : p = bs.length
  · rw [if_pos (show nI p = nI bs.length from e ▸ q), if_pos q]
  · rw [if_neg (show ¬ nI p = nI bs.length from fun z => q (e ▸ z)), if_neg q]
theorem c_readPack {S : vSt} {bs : List Nat} (hB : RowIs S 2 3 500 bs) (bb : ∀ x ∈ bs, x < 256) (hL : ∀ e, e < 16 → (S.2 (155 + 6 * e)).length = 255) : ∃ S1, Fr S S1 PR AR ∧ match rdPack bs with
    | .inl f => callv 111 [.ref 151] (hp S) = some (some (.int 0), hp S1) ∧ S1.1 151 5 = nI f
    | .inr es => callv 111 [.ref 151] (hp S) = some (some (.int 1), hp S1) ∧ EntsAt S1 es := by
  have t1 := fun S => rtR (S := S)
  have Q3 : PR 151 3 := Or.inl ⟨rfl, by omega⟩
  have Q4 : PR 151 4 := Or.inl ⟨rfl, by omega⟩
  have Q5 : PR 151 5 := Or.inl ⟨rfl, by omega⟩
  have F0 : ∀ S1 : vSt, runv 111 52 [some (.ref 151)] [] (hp S1) = some (some (.int 0), hp S1) := fun S1 => by
    simp only [s111_52, s111_53, vb0]
  have start : callv 111 [.ref 151] (hp S) = vbind (callv 113 [.ref 151, .int (nI 80)] (hp (fu (fu S 151 4 (nI 0)) 151 3 (nI 0)))) (fun v h' => runv 111 16 [some (.ref 151)] (vpush v []) h') := by
    show runv 111 0 [some (.ref 151)] [] (hp S) = _
    simp only [s111_0, s111_1, s111_2, s111_5, s111_6, s111_7, s111_10, s111_11, s111_13, r3p, r4p, List.length_cons, List.length_nil, Nat.reduceAdd, Nat.reduceLeDiff, Nat.zero_le, t1]
    rfl
  have g16 : ∀ S1 : vSt, runv 111 16 [some (.ref 151)] [.int 1] (hp S1) = vbind (callv 113 [.ref 151, .int (nI 1)] (hp S1)) (fun v h' => runv 111 24 [some (.ref 151)] (vpush v []) h') := fun S1 => by
    rw [s111_16, if_neg (show ¬ (1 : Int32) = 0 by decide)]
    simp only [s111_19, s111_20, s111_21, List.length_cons, List.length_nil, Nat.reduceAdd, Nat.reduceLeDiff, Nat.zero_le, t1]
    rfl
  have g24 : ∀ S1 : vSt, runv 111 24 [some (.ref 151)] [.int 1] (hp S1) = vbind (callv 115 [.ref 151] (hp S1)) (fun v h' => runv 111 31 [some (.ref 151)] (vpush v []) h') := fun S1 => by
    rw [s111_24, if_neg (show ¬ (1 : Int32) = 0 by decide)]
    simp only [s111_27, s111_28, List.length_cons, List.length_nil, Nat.reduceAdd, Nat.reduceLeDiff, Nat.zero_le, t1]
  have g31 : ∀ S1 : vSt, runv 111 31 [some (.ref 151)] [.int 1] (hp S1) = vbind (callv 121 [.ref 151] (hp S1)) (fun v h' => runv 111 38 [some (.ref 151)] (vpush v []) h') := fun S1 => by
    rw [s111_31, if_neg (show ¬ (1 : Int32) = 0 by decide)]
    simp only [s111_34, s111_35, List.length_cons, List.length_nil, Nat.reduceAdd, Nat.reduceLeDiff, Nat.zero_le, t1]
  have g38 : ∀ S1 : vSt, runv 111 38 [some (.ref 151)] [.int 1] (hp S1) = vbind (callv 122 [.ref 151] (hp S1)) (fun v h' => runv 111 45 [some (.ref 151)] (vpush v []) h') := fun S1 => by
    rw [s111_38, if_neg (show ¬ (1 : Int32) = 0 by decide)]
    simp only [s111_41, s111_42, List.length_cons, List.length_nil, Nat.reduceAdd, Nat.reduceLeDiff, Nat.zero_le, t1]
  have g45 : ∀ S1 : vSt, runv 111 45 [some (.ref 151)] [.int 1] (hp S1) = some (some (.int 1), hp S1) := fun S1 => by
    rw [s111_45, if_neg (show ¬ (1 : Int32) = 0 by decide)]
    simp only [s111_48, s111_49, s111_52, s111_53, vb1]
  have z16 : ∀ S1 : vSt, runv 111 16 [some (.ref 151)] [.int 0] (hp S1) = some (some (.int 0), hp S1) := fun S1 => by
    rw [s111_16, if_pos rfl, F0]
  have z24 : ∀ S1 : vSt, runv 111 24 [some (.ref 151)] [.int 0] (hp S1) = some (some (.int 0), hp S1) := fun S1 => by
    rw [s111_24, if_pos rfl, F0]
  have z31 : ∀ S1 : vSt, runv 111 31 [some (.ref 151)] [.int 0] (hp S1) = some (some (.int 0), hp S1) := fun S1 => by
    rw [s111_31, if_pos rfl, F0]
  have z38 : ∀ S1 : vSt, runv 111 38 [some (.ref 151)] [.int 0] (hp S1) = some (some (.int 0), hp S1) := fun S1 => by
    rw [s111_38, if_pos rfl, F0]
  have z45 : ∀ S1 : vSt, runv 111 45 [some (.ref 151)] [.int 0] (hp S1) = some (some (.int 0), hp S1) := fun S1 => by
    rw [s111_45, if_pos rfl, F0]
  generalize hA : fu (fu S 151 4 (nI 0)) 151 3 (nI 0) = A at start
  have fA : Fr S A PR AR := by rw [← hA]; exact (Fr.fu Q4).tr (Fr.fu Q3)
  have hBA : RowIs A 2 3 500 bs := by rw [← hA]; exact (hB.fu (by omega)).fu (by omega)
  have a4 : A.1 151 4 = nI 0 := by rw [← hA, fu_k _ _ (by decide), fu_at]
  have a3 : A.1 151 3 = nI 0 := by rw [← hA, fu_at]
  have aL : ∀ e, e < 16 → (A.2 (155 + 6 * e)).length = 255 := by rw [← hA]; exact hL
  have e1 := c_isNext hBA bb a4 (by omega) (b := 80) (by omega)
  unfold rdPack
  rw [start, e1]
  by_cases h1 : bs[0]? = some 80
  · rw [if_pos h1, if_pos h1, vbind_some, vpush_some, g16]
    have hB1 : RowIs (fu A 151 4 (nI (0 + 1))) 2 3 500 bs := hBA.fu (by omega)
    have e2 := c_isNext hB1 bb (fu_at _ _ _ _) (by omega) (b := 1) (by omega)
    rw [e2]
    by_cases h2 : bs[0 + 1]? = some 1
    · rw [if_pos h2, if_pos h2, vbind_some, vpush_some, g24]
      have hB2 : RowIs (fu (fu A 151 4 (nI (0 + 1))) 151 4 (nI (0 + 1 + 1))) 2 3 500 bs := hB1.fu (by omega)
      obtain ⟨S1, f1, g1⟩ := c_readEntries hB2 bb (fu_at _ _ _ _) (by rw [fu_k _ _ (by decide), fu_k _ _ (by decide), a3]) aL
      have f2 : Fr S S1 PR AR := (fA.tr ((Fr.fu Q4).tr (Fr.fu Q4))).tr f1
      by_cases h3 : 2 < bs.length ∧ 1 ≤ bs.getD 2 0 ∧ bs.getD 2 0 ≤ 16
      · rw [if_pos h3] at g1 ⊢
        cases hm : rdEnts bs (bs.getD 2 0) [] 3 with
        | inl f =>
          rw [hm] at g1
          simp only at g1 ⊢
          refine ⟨S1, f2, ?_, g1.2⟩
          rw [g1.1, vbind_some, vpush_some, z31]
        | inr q =>
          obtain ⟨es, p⟩ := q
          rw [hm] at g1
          simp only at g1 ⊢
          obtain ⟨k1, k2, k3, k4⟩ := g1
          rw [k1, vbind_some, vpush_some, g31]
          have hB3 : RowIs S1 2 3 500 bs := hB2.fr f1 (by rintro (⟨q, -⟩ | ⟨q, -⟩) <;> omega) (by rintro ⟨q, -⟩; omega)
          have b5 := hB.2.2.2.2.1
          rw [c_readHash hB3 bb k3 k4]
          by_cases h4 : bs[p]? = some (hashN 7 (bs.take p) / 256)
          · rw [if_pos h4, if_pos h4]
            by_cases h5 : bs[p + 1]? = some (hashN 7 (bs.take p) % 256)
            · rw [if_pos h5, if_pos h5, vbind_some, vpush_some, g38]
              have hB4 : RowIs (fu (fu S1 151 4 (nI (p + 1))) 151 4 (nI (p + 1 + 1))) 2 3 500 bs := (hB3.fu (by omega)).fu (by omega)
              rw [c_readEnd hB4 (fu_at _ _ _ _) (by omega)]
              by_cases h6 : p + 1 + 1 = bs.length
              · rw [if_pos h6, if_pos h6]
                show ∃ S2, Fr S S2 PR AR ∧ (_ ∧ EntsAt S2 es)
                refine ⟨fu (fu (fu S1 151 4 (nI (p + 1))) 151 4 (nI (p + 1 + 1))) 151 5 (nI (p + 1 + 1)), f2.tr (((Fr.fu Q4).tr (Fr.fu Q4)).tr (Fr.fu Q5)), ?_, ?_⟩
                · rw [vbind_some, vpush_some, g45]
                · have np : ∀ b j, b ≠ 151 → (fu (fu (fu S1 151 4 (nI (p + 1))) 151 4 (nI (p + 1 + 1))) 151 5 (nI (p + 1 + 1))).1 b j = S1.1 b j := fun b j hb => by rw [fu_a _ _ hb, fu_a _ _ hb, fu_a _ _ hb]
                  have F : Fr S1 (fu (fu (fu S1 151 4 (nI (p + 1))) 151 4 (nI (p + 1 + 1))) 151 5 (nI (p + 1 + 1))) (fun b _ => b = 151) (fun _ => False) := by refine Fr.tr (Fr.tr (Fr.fu ?_) (Fr.fu ?_)) (Fr.fu ?_) <;> rfl
                  refine ⟨by rw [fu_k _ _ (by decide), fu_k _ _ (by decide), fu_k _ _ (by decide), k2.n], k2.le, fun i en hi => ?_, k2.ok⟩
                  exact (k2.is i en hi).fr F (fun j => by omega) (by omega) (fun q => q)
              · rw [if_neg h6, if_neg h6]
                show ∃ S2, Fr S S2 PR AR ∧ (_ ∧ S2.1 151 5 = nI (p + 2))
                refine ⟨fu (fu (fu S1 151 4 (nI (p + 1))) 151 4 (nI (p + 1 + 1))) 151 5 (nI (p + 1 + 1)), f2.tr (((Fr.fu Q4).tr (Fr.fu Q4)).tr (Fr.fu Q5)), ?_, fu_at _ _ _ _⟩
                rw [vbind_some, vpush_some, z45]
            · rw [if_neg h5, if_neg h5]
              show ∃ S2, Fr S S2 PR AR ∧ (_ ∧ S2.1 151 5 = nI (p + 1))
              refine ⟨fu (fu S1 151 4 (nI (p + 1))) 151 5 (nI (p + 1)), f2.tr ((Fr.fu Q4).tr (Fr.fu Q5)), ?_, fu_at _ _ _ _⟩
              rw [vbind_some, vpush_some, z38]
          · rw [if_neg h4, if_neg h4]
            show ∃ S2, Fr S S2 PR AR ∧ (_ ∧ S2.1 151 5 = nI p)
            refine ⟨fu S1 151 5 (nI p), f2.tr (Fr.fu Q5), ?_, fu_at _ _ _ _⟩
            rw [vbind_some, vpush_some, z38]
      · rw [if_neg h3] at g1 ⊢
        simp only at g1 ⊢
        refine ⟨S1, f2, ?_, g1.2⟩
        rw [g1.1, vbind_some, vpush_some, z31]
    · rw [if_neg h2, if_neg h2]
      show ∃ S2, Fr S S2 PR AR ∧ (_ ∧ S2.1 151 5 = nI (0 + 1))
      refine ⟨fu (fu A 151 4 (nI (0 + 1))) 151 5 (nI (0 + 1)), fA.tr ((Fr.fu Q4).tr (Fr.fu Q5)), ?_, fu_at _ _ _ _⟩
      rw [vbind_some, vpush_some, z24]
  · rw [if_neg h1, if_neg h1]
    show ∃ S2, Fr S S2 PR AR ∧ (_ ∧ S2.1 151 5 = nI 0)
    refine ⟨fu A 151 5 (nI 0), fA.tr (Fr.fu Q5), ?_, fu_at _ _ _ _⟩
    rw [vbind_some, vpush_some, z16]
