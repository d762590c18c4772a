/-! the reference: want -/
section REF8
variable {S : vSt} {bs : List Nat} {os cs : List Obj} {rf wn hv : List Int32}
theorem c_rwant_loop (hL : RLen S) (h7 : S.2 256 = rf) {id : Int32} : ∀ k r (b : Bool), r + k = 4 → runv 44 4 [some (.ref 249), some (.int id), some (.int (bI b)), some (.int (nI r))] [] (hp S) = runv 44 39 [some (.ref 249), some (.int id), some (.int (bI (b || (decide (¬ id < 0) && decide (id ∈ rf.drop r))))), some (.int (nI 4))] [] (hp S) := by
  have h4 : rf.length = 4 := by rw [← h7]; exact hL.2.2.2.2.2.2.1
  intro k
  induction k with
  | zero =>
    intro r b hr
    have : r = 4 := by omega
    subst this
    rw [s44_4]
    simp only [s44_5, s44_6]
    rw [if_pos (show (4 : Int32) ≤ nI 4 by decide), List.drop_of_length_le (by omega)]
    simp
  | succ k ih =>
    intro r b hr
    have hrl : r < rf.length := by omega
    have hg : rf.getD r 0 = rf[r] := by rw [List.getD_eq_getElem?_getD, List.getElem?_eq_getElem hrl]; rfl
    have step : ∀ b2 : Bool, runv 44 32 [some (.ref 249), some (.int id), some (.int (bI b)), some (.int (nI r))] [.int (bI b2)] (hp S) = runv 44 4 [some (.ref 249), some (.int id), some (.int (bI b2)), some (.int (nI (r + 1)))] [] (hp S) := fun b2 => by
      simp only [s44_32, s44_33, s44_36, nI_1]
    rw [s44_4]
    simp only [s44_5, s44_6, s44_9, s44_10, s44_13, s44_14, s44_17, s44_18, s44_21, s44_22, s44_23, s44_24, s44_27, s44_28, s44_31, q8, ga rfl hL.2.2.2.2.2.2.1 (show r < 4 by omega) (by omega), h7, hg, if_bI]
    rw [if_neg (show ¬ (4 : Int32) ≤ nI r from nI_ge (b := 4) (by omega) (by omega)), List.drop_eq_getElem_cons hrl]
    cases b with
    | true =>
      rw [if_pos rfl]
      refine (step true).trans ?_
      rw [ih (r + 1) true (by omega)]
      rfl
    | false =>
      rw [if_neg (by decide)]
      by_cases q : id < 0
      · rw [if_pos q]
        refine (step false).trans ?_
        rw [ih (r + 1) false (by omega), decide_eq_false (fun z => z q)]
        rfl
      · rw [if_neg q]
        by_cases w : rf[r] = id
        · rw [if_pos w]
          refine (step true).trans ?_
          rw [ih (r + 1) true (by omega), decide_eq_true q, decide_eq_true (show id ∈ rf[r] :: rf.drop (r + 1) by rw [w]; exact List.mem_cons_self)]
          rfl
        · rw [if_neg w]
          refine (step false).trans ?_
          rw [ih (r + 1) false (by omega)]
          have : decide (id ∈ rf[r] :: rf.drop (r + 1)) = decide (id ∈ rf.drop (r + 1)) := by
            apply decide_eq_decide.mpr
            rw [List.mem_cons]
            exact ⟨fun z => z.elim (fun v => absurd v.symm w) (fun v => v), Or.inr⟩
          rw [this]
theorem w_want (h : ModIs S (bs, os, cs, rf, wn, hv)) (u0 : Uniq os) (hr : ∀ r ∈ rf, r = -1 ∨ (fIdx os r).isSome = true) (id : Int32) (hw : wn.length < 16 ∨ id ∈ wn ∨ id = -1 ∨ ¬ id ∈ rf) : if id ≠ -1 ∧ id ∈ rf then RMeth S 44 [.int id] 1 (bs, os, cs, rf, (if wn.length < 16 ∧ ¬ id ∈ wn then wn ++ [id] else wn), hv) else RMeth S 44 [.int id] 0 (bs, os, cs, rf, wn, hv) := by
  have h0 := h
  obtain ⟨h1, h2, h3, h4, h5, h6, h7, h8, h9, h10, h11, h12⟩ := h
  simp only at h2 h3 h4 h5 h6 h7 h8 h9 h10 h11 h12
  have tq := qt (S := S)
  have e := c_rwant_loop h1 h7 (id := id) 4 0 false (by omega)
  rw [List.drop_zero, Bool.false_or] at e
  have st : callv 44 [.ref 249, .int id] (hp S) = runv 44 39 [some (.ref 249), some (.int id), some (.int (bI (decide (¬ id < 0) && decide (id ∈ rf)))), some (.int (nI 4))] [] (hp S) := by
    rw [← e]
    show runv 44 0 [some (.ref 249), some (.int id), none, none] [] (hp S) = _
    simp only [s44_0, s44_1, s44_2, s44_3]
    rfl
  by_cases q : id ≠ -1 ∧ id ∈ rf
  · rw [if_pos q]
    obtain ⟨j, hf⟩ : ∃ j, fIdx os id = some j := by
      rcases hr id q.2 with z | z
      · exact absurd z q.1
      · exact Option.isSome_iff_exists.mp z
    have hj := fIdx_lt hf
    have hle := h5.2.2.1
    have hle : os.length ≤ 16 := hle
    have hid : id = nI (oid os[j].1 os[j].2) := by
      obtain ⟨z1, z2, -⟩ := List.findIdx?_eq_some_iff_getElem.mp hf
      exact (of_decide_eq_true z2).symm
    have hlt := oid_lt os[j].1 os[j].2
    have hn : ¬ id < 0 := by rw [hid]; exact nI_pos (by omega)
    rw [decide_eq_true hn, decide_eq_true q.2] at st
    have ef := c_rfind h1 h5 u0 id
    rw [hf] at ef
    have e0 : (nI 0 : Int32) = 0 := rfl
    rw [e0] at ef
    have ej : oJ (st0 0) (some j) = nI j := by
      show nI (st0 0 + j) = nI j
      rw [show st0 0 = 0 from rfl, Nat.zero_add]
    rw [ej] at ef
    have gset := fun (K2 : vH → Option (Option Value × vH)) => gbs (S := S) (i := j) (x := 1) (K2 := K2) (a := 257) rfl h1.2.2.2.2.2.2.2.1 (by omega) (by omega)
    have g10 := fun (T : vSt) (K2 : vH → Option (Option Value × vH)) => (q10p (S := T) (b := true) (K2 := K2))
    have e1 : bI true = 1 := rfl
    rw [e1] at g10
    simp only [s44_39, s44_40, s44_43, s44_44, s44_45, s44_46, s44_49, s44_50, s44_51, s44_52, s44_55, s44_56, s44_57, s44_58, s44_59, s44_62, s44_63, q9, List.length_cons, List.length_nil, Nat.reduceAdd, Nat.reduceLeDiff, Nat.zero_le, tq, ef, vbind_some, vpush_some, gset, g10, vb1, Bool.and_self] at st
    rw [if_neg (show ¬ bI true = 0 by decide)] at st
    have n2 : ∀ b, b ≠ 257 → (fu (au S 257 ((S.2 257).set j 1)) 249 10 1).2 b = S.2 b := fun b hb => by rw [fu_2, au_a _ _ hb]
    have n1 : ∀ k, k ≠ 10 → (fu (au S 257 ((S.2 257).set j 1)) 249 10 1).1 249 k = S.1 249 k := fun k hk => by rw [fu_k _ _ hk, au_1]
    have hRL0 : RLen (au S 257 ((S.2 257).set j 1)) := rl_au h1 (by rw [List.length_set])
    have hRL : RLen (fu (au S 257 ((S.2 257).set j 1)) 249 10 1) := hRL0
    have hl16 : (S.2 257).length = 16 := h1.2.2.2.2.2.2.2.1
    have hmem : ∀ z, z ∈ (if wn.length < 16 ∧ ¬ id ∈ wn then wn ++ [id] else wn) ↔ z ∈ wn ∨ z = id := by
      intro z
      split
      · rw [List.mem_append, List.mem_singleton]
      · rename_i hc
        have hin : id ∈ wn := by
          rcases hw with w | w | w | w
          · by_cases x : id ∈ wn
            · exact x
            · exact absurd ⟨w, x⟩ hc
          · exact w
          · exact absurd w q.1
          · exact absurd q.2 w
        exact ⟨Or.inl, fun w => w.elim (fun v => v) (fun v => v ▸ hin)⟩
    have hne : (if wn.length < 16 ∧ ¬ id ∈ wn then wn ++ [id] else wn) ≠ [] := fun z => by
      have := (hmem id).mpr (Or.inr rfl)
      rw [z] at this
      cases this
    generalize (if wn.length < 16 ∧ ¬ id ∈ wn then wn ++ [id] else wn) = wn' at *
    refine ⟨_, st, ⟨hRL, ⟨by rw [n1 _ (by omega)]; exact h2.1, by rw [n2 _ (by omega)]; exact h2.2.1, by rw [n2 _ (by omega)]; exact h2.2.2.1, h2.2.2.2⟩, h3, h4, h5.of (n2 _ (by omega)) (n2 _ (by omega)) (n2 _ (by omega)) (n2 _ (by omega)), h6.of (n2 _ (by omega)) (n2 _ (by omega)) (n2 _ (by omega)) (n2 _ (by omega)), by rw [n2 _ (by omega)]; exact h7, fun i hi => ?_, ?_, by rw [n1 _ (by omega)]; exact h10, h11, by rw [n2 _ (by omega)]; exact h12⟩, (Agr.au (by omega)).tr (Agr.fu (by omega))⟩
    · show ((fu (au S 257 ((S.2 257).set j 1)) 249 10 1).2 257).getD i 0 = bI (wMk os wn' i)
      rw [fu_2, au_at]
      by_cases w : j = i
      · subst w
        rw [getD_set_self (by omega)]
        unfold wMk
        rw [List.getElem?_eq_getElem hj]
        simp only
        rw [decide_eq_true ((hmem _).mpr (Or.inr hid.symm))]
        rfl
      · rw [getD_set_ne w, h8 i hi]
        unfold wMk
        cases ho : os[i]? with
        | none => rfl
        | some o =>
          simp only
          congr 1
          apply decide_eq_decide.mpr
          rw [hmem]
          refine ⟨Or.inl, fun z => z.elim (fun v => v) (fun v => ?_)⟩
          exfalso
          have hil : i < os.length := (List.getElem?_eq_some_iff.mp ho).1
          have hoi : os[i] = o := (List.getElem?_eq_some_iff.mp ho).2
          have hlo := oid_lt o.1 o.2
          rw [hid] at v
          have v2 : oid o.1 o.2 = oid os[j].1 os[j].2 := by
            have := nI_inj (a := oid o.1 o.2) (b := oid os[j].1 os[j].2) (by omega) (by omega)
            rw [this] at v
            exact v
          have u := List.pairwise_iff_getElem.mp u0
          have m1 : (os.map (fun o => oid o.1 o.2))[j]'(by rw [List.length_map]; exact hj) = oid os[j].1 os[j].2 := by rw [List.getElem_map]
          have m2 : (os.map (fun o => oid o.1 o.2))[i]'(by rw [List.length_map]; exact hil) = oid o.1 o.2 := by rw [List.getElem_map, hoi]
          rcases Nat.lt_or_gt_of_ne w with x | x
          · exact u j i (by rw [List.length_map]; exact hj) (by rw [List.length_map]; exact hil) x (by rw [m1, m2, v2])
          · exact u i j (by rw [List.length_map]; exact hil) (by rw [List.length_map]; exact hj) x (by rw [m1, m2, v2])
    · rw [fu_at, decide_eq_true hne]
      rfl
  · rw [if_neg q]
    have : (decide (¬ id < 0) && decide (id ∈ rf)) = false := by
      rw [Bool.eq_false_iff]
      intro z
      simp only [Bool.and_eq_true, decide_eq_true_eq] at z
      refine q ⟨fun w => z.1 (by rw [w]; decide), z.2⟩
    rw [this] at st
    simp only [s44_39, s44_40, s44_43, s44_44, vb0] at st
    rw [if_pos (show bI false = 0 from rfl)] at st
    exact ⟨S, st, h0, Agr.rf⟩
end REF8
