/-! the reference: forget, point, have, want -/
theorem rl_au {S : vSt} {a : Nat} {l : List Int32} (h : RLen S) (hl : l.length = (S.2 a).length) : RLen (au S a l) := by
  have n : ∀ b, ((au S a l).2 b).length = (S.2 b).length := by
    intro b
    by_cases q : b = a
    · subst q; rw [au_at, hl]
    · rw [au_a _ _ q]
  obtain ⟨g0, g1, g2, g3, g4, g5, g6, g7, g8, g9, g10, g11, g12, g13, g14, g15, g16⟩ := h
  exact ⟨by rw [n, g0], by rw [n, g1], by rw [n, g2], by rw [n, g3], by rw [n, g4], by rw [n, g5], by rw [n, g6], by rw [n, g7], by rw [n, g8], by rw [n, g9], by rw [n, g10], by rw [n, g11], by rw [n, g12], by rw [n, g13], by rw [n, g14], by rw [n, g15], by rw [n, g16]⟩
theorem getD_set_ne {l : List Int32} {i j : Nat} {x : Int32} (h : i ≠ j) : (l.set i x).getD j 0 = l.getD j 0 := by
  rw [List.getD_eq_getElem?_getD, List.getD_eq_getElem?_getD, List.getElem?_set_ne h]
theorem getD_set_self {l : List Int32} {i : Nat} {x : Int32} (h : i < l.length) : (l.set i x).getD i 0 = x := by
  rw [List.getD_eq_getElem?_getD, List.getElem?_set_self h]
  rfl
section REF7
variable {S : vSt} {bs : List Nat} {os cs : List Obj} {rf wn hv : List Int32}
theorem w_forget (h : ModIs S (bs, os, cs, rf, wn, hv)) : RMeth S 68 [] (nI cs.length) (bs, os, [], rf, wn, hv) := by
  obtain ⟨h1, h2, h3, h4, h5, h6, h7, h8, h9, h10, h11, h12⟩ := h
  simp only at h2 h3 h4 h5 h6 h7 h8 h9 h10 h11 h12
  have n2 : ∀ b, b ≠ 251 → (au S 251 ((S.2 251).set 1 0)).2 b = S.2 b := fun b hb => au_a _ _ hb
  have l2 := h1.2.1
  refine ⟨au S 251 ((S.2 251).set 1 0), ?_, ⟨rl_au h1 (by rw [List.length_set]), ⟨h2.1, by rw [n2 _ (by omega)]; exact h2.2.1, by rw [n2 _ (by omega)]; exact h2.2.2.1, h2.2.2.2⟩, h3, h4, ⟨h5.1, by rw [au_at, getD_set_ne (by omega)]; exact h5.2.1, h5.2.2.1, fun i o ho => (h5.2.2.2 i o ho).of (n2 _ (by omega)) (n2 _ (by omega)) (n2 _ (by omega))⟩, ⟨h6.1, by rw [au_at, getD_set_self (by omega)]; rfl, by simp, by simp⟩, by rw [n2 _ (by omega)]; exact h7, fun i hi => by rw [n2 _ (by omega)]; exact h8 i hi, h9, h10, h11, by rw [n2 _ (by omega)]; exact h12⟩, Agr.au (by omega)⟩
  show runv 68 0 [some (.ref 249), none] [] (hp S) = _
  have g1 := fun (K : Value → Option (Option Value × vH)) => g251 (K := K) h1 (show 1 < 2 by omega)
  have g2 := fun (K2 : vH → Option (Option Value × vH)) => gs (S := S) (x := 0) (K2 := K2) rfl l2 (show 1 < 2 by omega) (by omega)
  have e1 : (nI 1 : Int32) = 1 := rfl
  rw [e1] at g1 g2
  simp only [s68_0, s68_1, s68_4, s68_5, s68_6, s68_7, s68_8, s68_11, s68_12, s68_13, s68_14, s68_15, q2, g1, g2, h6.2.1]
theorem w_point (h : ModIs S (bs, os, cs, rf, wn, hv)) (u0 : Uniq os) (r id : Int32) : if ¬ r < 0 ∧ r < 4 ∧ isCm os id = true then RMeth S 42 [.int r, .int id] 1 (bs, os, cs, rf.set r.toNatClampNeg id, wn, hv) else RMeth S 42 [.int r, .int id] 0 (bs, os, cs, rf, wn, hv) := by
  have h0 := h
  obtain ⟨h1, h2, h3, h4, h5, h6, h7, h8, h9, h10, h11, h12⟩ := h
  simp only at h2 h3 h4 h5 h6 h7 h8 h9 h10 h11 h12
  have tq := qt (S := S)
  have e4 : (0 ≤ r ∧ r ≤ 3) ↔ (¬ r < 0 ∧ r < 4) := inR (n := 4) (by omega)
  have ef := c_rfind h1 h5 u0 id
  have e0 : (nI 0 : Int32) = 0 := rfl
  rw [e0] at ef
  have st : callv 42 [.ref 249, .int r, .int id] (hp S) = if decide (0 ≤ r ∧ r ≤ 3) = true then (if oJ (st0 0) (fIdx os id) < 0 then some (some (.int 0), hp S) else runv 42 20 [some (.ref 249), some (.int r), some (.int id), some (.int (oJ (st0 0) (fIdx os id)))] [] (hp S)) else some (some (.int 0), hp S) := by
    show runv 42 0 [some (.ref 249), some (.int r), some (.int id), none] [] (hp S) = _
    simp only [s42_0, s42_1, s42_2, s42_3, s42_6, s42_7, s42_8, s42_9, s42_10, s42_13, s42_16, s42_17, s42_30, s42_31, List.length_cons, List.length_nil, Nat.reduceAdd, Nat.reduceLeDiff, Nat.zero_le, tq, ef, c_in, vbind_some, vpush_some, if_bI, vb0]
  by_cases q : ¬ r < 0 ∧ r < 4
  · rw [if_pos (decide_eq_true (e4.mpr q))] at st
    unfold isCm
    cases hf : fIdx os id with
    | none =>
      rw [hf, if_pos (show oJ (st0 0) none < 0 by decide)] at st
      rw [if_neg (by simp)]
      exact ⟨S, st, h0, Agr.rf⟩
    | some j =>
      have hj := fIdx_lt hf
      have hle := h5.2.2.1
      have hsl := h5.2.2.2 j _ (List.getElem?_eq_getElem hj)
      have hg : os.getD j (0, []) = os[j] := by rw [List.getD_eq_getElem?_getD, List.getElem?_eq_getElem hj]; rfl
      obtain ⟨v1, v2, v3, v4, v5, v6, v7, v8⟩ := hsl
      rw [hf, if_neg (show ¬ oJ (st0 0) (some j) < 0 from nI_pos (by omega))] at st
      have a1 : (nI os[j].1 = 1) = (os[j].1 = 1) := nI_inj (b := 1) (by omega) (by omega)
      have st2 : runv 42 20 [some (.ref 249), some (.int r), some (.int id), some (.int (oJ (st0 0) (some j)))] [] (hp S) = if os[j].1 = 1 then runv 42 32 [some (.ref 249), some (.int r), some (.int id), some (.int (oJ (st0 0) (some j)))] [] (hp S) else some (some (.int 0), hp S) := by
        simp only [s42_20, s42_21, s42_24, s42_25, s42_26, s42_27, s42_30, s42_31, q3, oJ, g252 h1 v1, v2, a1, vb0]
      rw [st2] at st
      simp only [hg, decide_eq_true_eq]
      by_cases c : os[j].1 = 1
      · rw [if_pos c] at st
        rw [if_pos ⟨q.1, q.2, c⟩]
        obtain ⟨x, hx, rfl⟩ := lt_nat (n := 4) q.1 q.2 (by omega)
        simp only [s42_32, s42_33, s42_36, s42_37, s42_38, s42_39, s42_40, q8, gs (x := id) rfl h1.2.2.2.2.2.2.1 hx (by omega), vb1, h7] at st
        have n2 : ∀ b, b ≠ 256 → (au S 256 (rf.set x id)).2 b = S.2 b := fun b hb => au_a _ _ hb
        rw [nI_clamp (by omega)]
        exact ⟨_, st, ⟨rl_au h1 (by rw [List.length_set, h7]), ⟨h2.1, by rw [n2 _ (by omega)]; exact h2.2.1, by rw [n2 _ (by omega)]; exact h2.2.2.1, h2.2.2.2⟩, h3, h4, h5.of (n2 _ (by omega)) (n2 _ (by omega)) (n2 _ (by omega)) (n2 _ (by omega)), h6.of (n2 _ (by omega)) (n2 _ (by omega)) (n2 _ (by omega)) (n2 _ (by omega)), au_at _ _ _, fun i hi => by rw [n2 _ (by omega)]; exact h8 i hi, h9, h10, h11, by rw [n2 _ (by omega)]; exact h12⟩, Agr.au (by omega)⟩
      · rw [if_neg c] at st
        rw [if_neg (fun z => c z.2.2)]
        exact ⟨S, st, h0, Agr.rf⟩
  · rw [if_neg (fun z => q ⟨z.1, z.2.1⟩)]
    rw [if_neg (by rw [decide_eq_false (fun z => q (e4.mp z))]; decide)] at st
    exact ⟨S, st, h0, Agr.rf⟩
theorem c_rhave_loop (hL : RLen S) (h10 : S.1 249 11 = nI hv.length) (h11 : hv.length ≤ 8) (h12 : (S.2 258).take hv.length = hv) {id : Int32} : ∀ k j (b : Bool), j + k = hv.length → runv 45 17 [some (.ref 249), some (.int id), some (.int (bI b)), some (.int (nI j))] [] (hp S) = runv 45 51 [some (.ref 249), some (.int id), some (.int (bI (b && !decide (id ∈ hv.drop j)))), some (.int (nI hv.length))] [] (hp S) := by
  intro k
  induction k with
  | zero =>
    intro j b hj
    have : j = hv.length := by omega
    subst this
    rw [s45_17]
    simp only [s45_18, s45_19, s45_22, q11, h10]
    rw [if_pos (nI_le (Nat.le_refl _) (by omega)), List.drop_of_length_le (Nat.le_refl _)]
    simp
  | succ k ih =>
    intro j b hj
    have hjl : j < hv.length := by omega
    have hg : (S.2 258).getD j 0 = hv[j] := by
      have e : ((S.2 258).take hv.length)[j]? = hv[j]? := by rw [h12]
      rw [List.getElem?_take_of_lt hjl, List.getElem?_eq_getElem hjl] at e
      rw [List.getD_eq_getElem?_getD, e]
      rfl
    have step : ∀ b2 : Bool, runv 45 44 [some (.ref 249), some (.int id), some (.int (bI b)), some (.int (nI j))] [.int (bI b2)] (hp S) = runv 45 17 [some (.ref 249), some (.int id), some (.int (bI b2)), some (.int (nI (j + 1)))] [] (hp S) := fun b2 => by
      simp only [s45_44, s45_45, s45_48, nI_1]
    rw [s45_17]
    simp only [s45_18, s45_19, s45_22, s45_25, s45_26, s45_29, s45_30, s45_33, s45_34, s45_35, s45_36, s45_39, s45_40, s45_43, q11, q12, h10, ga rfl hL.2.2.2.2.2.2.2.2.1 (show j < 8 by omega) (by omega), hg, if_bI]
    rw [if_neg (nI_ge (by omega) (by omega)), List.drop_eq_getElem_cons hjl]
    cases b with
    | false =>
      rw [if_neg (by decide)]
      refine (step false).trans ?_
      rw [ih (j + 1) false (by omega)]
      rfl
    | true =>
      rw [if_pos rfl]
      by_cases q : hv[j] = id
      · rw [if_pos q]
        refine (step false).trans ?_
        rw [ih (j + 1) false (by omega), decide_eq_true (show id ∈ hv[j] :: hv.drop (j + 1) by rw [q]; exact List.mem_cons_self)]
        rfl
      · rw [if_neg q]
        refine (step true).trans ?_
        rw [ih (j + 1) true (by omega)]
        have : decide (id ∈ hv[j] :: hv.drop (j + 1)) = decide (id ∈ hv.drop (j + 1)) := by
          apply decide_eq_decide.mpr
          rw [List.mem_cons]
          exact ⟨fun z => z.elim (fun w => absurd w.symm q) (fun w => w), Or.inr⟩
        rw [this]
theorem w_have (h : ModIs S (bs, os, cs, rf, wn, hv)) (id : Int32) : if hv.length < 8 ∧ ¬ id ∈ hv then RMeth S 45 [.int id] 1 (bs, os, cs, rf, wn, hv ++ [id]) else RMeth S 45 [.int id] 0 (bs, os, cs, rf, wn, hv) := by
  have h0 := h
  obtain ⟨h1, h2, h3, h4, h5, h6, h7, h8, h9, h10, h11, h12⟩ := h
  simp only at h2 h3 h4 h5 h6 h7 h8 h9 h10 h11 h12
  have e := c_rhave_loop h1 h10 h11 h12 (id := id) hv.length 0 (decide (hv.length < 8)) (by omega)
  rw [List.drop_zero] at e
  have st : callv 45 [.ref 249, .int id] (hp S) = runv 45 51 [some (.ref 249), some (.int id), some (.int (bI (decide (hv.length < 8) && !decide (id ∈ hv)))), some (.int (nI hv.length))] [] (hp S) := by
    rw [← e]
    show runv 45 0 [some (.ref 249), some (.int id), none, none] [] (hp S) = _
    simp only [s45_0, s45_1, s45_4, s45_6, s45_9, s45_10, s45_13, s45_14, s45_15, s45_16, q11, h10]
    by_cases c : hv.length < 8
    · rw [if_neg (show ¬ (8 : Int32) ≤ nI hv.length from nI_ge (b := 8) c (by omega)), decide_eq_true c]
      rfl
    · rw [if_pos (show (8 : Int32) ≤ nI hv.length from nI_le (a := 8) (by omega) (by omega)), decide_eq_false c]
      rfl
  by_cases q : hv.length < 8 ∧ ¬ id ∈ hv
  · rw [if_pos q]
    rw [decide_eq_true q.1, decide_eq_false q.2] at st
    have e1 : ∀ l, (au S 258 l).1 249 11 = nI hv.length := fun l => h10
    simp only [s45_51, s45_52, s45_55, s45_56, s45_57, s45_58, s45_61, s45_62, s45_65, s45_66, s45_67, s45_68, s45_69, s45_72, s45_73, s45_74, s45_77, s45_78, q11, q12, h10, gs (x := id) rfl h1.2.2.2.2.2.2.2.2.1 q.1 (by omega), e1, q11p, nI_1, vb1, Bool.not_false, Bool.and_self] at st
    rw [if_neg (show ¬ bI true = 0 by decide)] at st
    have n2 : ∀ b, b ≠ 258 → (fu (au S 258 ((S.2 258).set hv.length id)) 249 11 (nI (hv.length + 1))).2 b = S.2 b := fun b hb => by rw [fu_2, au_a _ _ hb]
    have n1 : ∀ j, j ≠ 11 → (fu (au S 258 ((S.2 258).set hv.length id)) 249 11 (nI (hv.length + 1))).1 249 j = S.1 249 j := fun j hj => by rw [fu_k _ _ hj, au_1]
    have hk : (S.2 258).length = 8 := h1.2.2.2.2.2.2.2.2.1
    have hRL0 : RLen (au S 258 ((S.2 258).set hv.length id)) := rl_au h1 (by rw [List.length_set])
    have hRL : RLen (fu (au S 258 ((S.2 258).set hv.length id)) 249 11 (nI (hv.length + 1))) := hRL0
    refine ⟨_, st, ⟨hRL, ⟨by rw [n1 _ (by omega)]; exact h2.1, by rw [n2 _ (by omega)]; exact h2.2.1, by rw [n2 _ (by omega)]; exact h2.2.2.1, h2.2.2.2⟩, h3, h4, h5.of (n2 _ (by omega)) (n2 _ (by omega)) (n2 _ (by omega)) (n2 _ (by omega)), h6.of (n2 _ (by omega)) (n2 _ (by omega)) (n2 _ (by omega)) (n2 _ (by omega)), by rw [n2 _ (by omega)]; exact h7, fun i hi => by rw [n2 _ (by omega)]; exact h8 i hi, by rw [n1 _ (by omega)]; exact h9, by rw [fu_at, List.length_append, List.length_singleton], by rw [List.length_append, List.length_singleton]; omega, ?_⟩, (Agr.au (by omega)).tr (Agr.fu (by omega))⟩
    show ((fu (au S 258 ((S.2 258).set hv.length id)) 249 11 (nI (hv.length + 1))).2 258).take (hv ++ [id]).length = hv ++ [id]
    rw [fu_2, au_at, set_app (l := S.2 258) (m := hv) (n := hv.length) (v := id) h12 (by omega), List.take_left' rfl]
  · rw [if_neg q]
    have : (decide (hv.length < 8) && !decide (id ∈ hv)) = false := by
      rw [Bool.eq_false_iff]
      intro z
      simp only [Bool.and_eq_true, decide_eq_true_eq, Bool.not_eq_true', decide_eq_false_iff_not] at z
      exact q z
    rw [this] at st
    simp only [s45_51, s45_52, s45_55, s45_56, vb0] at st
    rw [if_pos (show bI false = 0 from rfl)] at st
    exact ⟨S, st, h0, Agr.rf⟩
end REF7
