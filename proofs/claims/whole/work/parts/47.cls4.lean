/-! the class: questions, receive -/
section CLS4
variable {S : vSt} {bs : List Nat} {os cs : List Obj} {rf wn hv : List Int32}
theorem m_kind (h : ClsIs S (bs, os, cs, rf, wn, hv)) (s id : Int32) : Meth S 14 [.int s, .int id] (match objOn os cs s id with | none => 0 | some o => nI o.1) (bs, os, cs, rf, wn, hv) := by
  have tp := pt (S := S)
  have e := c_itemOn h.2.2.1 h.2.2.2.1 s id
  refine ⟨S, ?_, h, Agr.rf⟩
  show runv 14 0 [some (.ref 1), some (.int s), some (.int id), none] [] (hp S) = _
  cases ho : objOn os cs s id with
  | none =>
    rw [ho] at e
    simp only at e
    simp only [s14_0, s14_1, s14_2, s14_3, s14_6, n14_6, s14_7, n14_7, s14_8, n14_8, s14_11, s14_12, s14_15, n14_15, s14_16, s14_19, List.length_cons, List.length_nil, Nat.reduceAdd, Nat.reduceLeDiff, Nat.zero_le, tp, e, vbind_some, vpush_some]
  | some o =>
    rw [ho] at e
    obtain ⟨ad, e1, e2⟩ := e
    have t := itt (S := S) e2.1
    simp only [s14_0, s14_1, s14_2, s14_3, s14_6, n14_6, s14_7, n14_7, s14_8, n14_8, s14_11, s14_12, s14_15, n14_15, s14_16, s14_19, List.length_cons, List.length_nil, Nat.reduceAdd, Nat.reduceLeDiff, Nat.zero_le, tp, e1, t, c_sort e2.1, e2.2.2.1, vbind_some, vpush_some]
theorem m_length (h : ClsIs S (bs, os, cs, rf, wn, hv)) (s id : Int32) : Meth S 15 [.int s, .int id] (match objOn os cs s id with | none => -1 | some o => nI o.2.length) (bs, os, cs, rf, wn, hv) := by
  have tp := pt (S := S)
  have e := c_itemOn h.2.2.1 h.2.2.2.1 s id
  refine ⟨S, ?_, h, Agr.rf⟩
  show runv 15 0 [some (.ref 1), some (.int s), some (.int id), none] [] (hp S) = _
  cases ho : objOn os cs s id with
  | none =>
    rw [ho] at e
    simp only at e
    simp only [s15_0, s15_1, s15_2, s15_3, s15_6, n15_6, s15_7, n15_7, s15_8, n15_8, s15_11, s15_12, s15_15, n15_15, s15_16, s15_19, s15_22, List.length_cons, List.length_nil, Nat.reduceAdd, Nat.reduceLeDiff, Nat.zero_le, tp, e, vbind_some, vpush_some]
  | some o =>
    rw [ho] at e
    obtain ⟨ad, e1, e2⟩ := e
    have t := itt (S := S) e2.1
    have t2 := rowt (S := S) e2.1.2
    simp only [s15_0, s15_1, s15_2, s15_3, s15_6, n15_6, s15_7, n15_7, s15_8, n15_8, s15_11, s15_12, s15_15, n15_15, s15_16, s15_19, s15_22, List.length_cons, List.length_nil, Nat.reduceAdd, Nat.reduceLeDiff, Nat.zero_le, tp, e1, t, t2, c_bytes e2.1, c_used e2.2.1, vbind_some, vpush_some]
theorem m_content (h : ClsIs S (bs, os, cs, rf, wn, hv)) (s id i : Int32) : Meth S 16 [.int s, .int id, .int i] (match objOn os cs s id with | none => -1 | some o => rget o.2 i) (bs, os, cs, rf, wn, hv) := by
  have tp := pt (S := S)
  have e := c_itemOn h.2.2.1 h.2.2.2.1 s id
  refine ⟨S, ?_, h, Agr.rf⟩
  show runv 16 0 [some (.ref 1), some (.int s), some (.int id), some (.int i), none] [] (hp S) = _
  cases ho : objOn os cs s id with
  | none =>
    rw [ho] at e
    simp only at e
    simp only [s16_0, s16_1, s16_2, s16_3, s16_6, n16_6, s16_8, n16_8, s16_10, n16_10, s16_13, s16_14, s16_17, n16_17, s16_19, s16_22, s16_23, s16_26, List.length_cons, List.length_nil, Nat.reduceAdd, Nat.reduceLeDiff, Nat.zero_le, tp, e, vbind_some, vpush_some]
  | some o =>
    rw [ho] at e
    obtain ⟨ad, e1, e2⟩ := e
    have t := itt (S := S) e2.1
    have t2 := rowt (S := S) e2.1.2
    simp only [s16_0, s16_1, s16_2, s16_3, s16_6, n16_6, s16_8, n16_8, s16_10, n16_10, s16_13, s16_14, s16_17, n16_17, s16_19, s16_22, s16_23, s16_26, List.length_cons, List.length_nil, Nat.reduceAdd, Nat.reduceLeDiff, Nat.zero_le, tp, e1, t, t2, c_bytes e2.1, c_get e2.2.1, vbind_some, vpush_some]
theorem m_count (h : ClsIs S (bs, os, cs, rf, wn, hv)) (s : Int32) : Meth S 18 [.int s] (match sideOf os cs s with | none => -1 | some l => nI l.length) (bs, os, cs, rf, wn, hv) := by
  have tp := pt (S := S)
  have h3 : ShelfIs S 4 16 os := h.2.2.1
  have h4 : ShelfIs S 54 24 cs := h.2.2.2.1
  have t3 := sht (S := S) h3.1
  have t4 := sht (S := S) h4.1
  have st : callv 18 [.ref 1, .int s] (hp S) = runv 18 5 [some (.ref 1), some (.int s), none] [if s = 0 then .ref 4 else if s = 1 then .ref 54 else .null] (hp S) := by
    show runv 18 0 [some (.ref 1), some (.int s), none] [] (hp S) = _
    simp only [s18_0, s18_1, s18_2, List.length_cons, List.length_nil, Nat.reduceAdd, Nat.reduceLeDiff, Nat.zero_le, tp, c_shelfOf, vbind_some, vpush_some]
  refine ⟨S, ?_, h, Agr.rf⟩
  rw [st]
  unfold sideOf
  by_cases q0 : s = 0
  · rw [if_pos q0, if_pos q0]
    simp only [s18_5, n18_5, s18_6, n18_6, s18_7, n18_7, s18_10, s18_11, s18_14, n18_14, s18_15, s18_18, List.length_cons, List.length_nil, Nat.reduceAdd, Nat.reduceLeDiff, Nat.zero_le, t3, c_held h3, vbind_some, vpush_some]
  · rw [if_neg q0, if_neg q0]
    by_cases q1 : s = 1
    · rw [if_pos q1, if_pos q1]
      simp only [s18_5, n18_5, s18_6, n18_6, s18_7, n18_7, s18_10, s18_11, s18_14, n18_14, s18_15, s18_18, List.length_cons, List.length_nil, Nat.reduceAdd, Nat.reduceLeDiff, Nat.zero_le, t4, c_held h4, vbind_some, vpush_some]
    · rw [if_neg q1, if_neg q1]
      simp only [s18_5, n18_5, s18_6, n18_6, s18_7, n18_7, s18_10, s18_11, s18_14, n18_14, s18_15, s18_18]
/-- the size of a closure, or -1 -/
def cloN (l : List Obj) (id : Int32) : Int32 := if (incl l 24 id []).1 = true then nI (incl l 24 id []).2.length else -1
theorem m_closure (h : ClsIs S (bs, os, cs, rf, wn, hv)) (s id : Int32) : Meth S 17 [.int s, .int id] (match sideOf os cs s with | none => -1 | some l => cloN l id) (bs, os, cs, rf, wn, hv) := by
  have tp := fun S => pt (S := S)
  have h3 : ShelfIs S 4 16 os := h.2.2.1
  have h4 : ShelfIs S 54 24 cs := h.2.2.2.1
  have hL := h.2.2.2.2.2.2.2.2
  have tc := fun S => clt (S := S) isClos_r
  have st : callv 17 [.ref 1, .int s, .int id] (hp S) = runv 17 5 [some (.ref 1), some (.int s), some (.int id), none] [if s = 0 then .ref 4 else if s = 1 then .ref 54 else .null] (hp S) := by
    show runv 17 0 [some (.ref 1), some (.int s), some (.int id), none] [] (hp S) = _
    simp only [s17_0, s17_1, s17_2, List.length_cons, List.length_nil, Nat.reduceAdd, Nat.reduceLeDiff, Nat.zero_le, tp, c_shelfOf, vbind_some, vpush_some]
  have key : ∀ (sh cap : Nat) (l : List Obj), ShelfIs S sh cap l → sh + 2 + 3 * cap ≤ 136 → cap ≤ 24 → callv 17 [.ref 1, .int s, .int id] (hp S) = runv 17 5 [some (.ref 1), some (.int s), some (.int id), none] [.ref sh] (hp S) → Meth S 17 [.int s, .int id] (cloN l id) (bs, os, cs, rf, wn, hv) := by
    intro sh cap l hS hsh hcap e
    have ec := c_cclear (S := S) isClos_r hL.2.1
    have hC0 := ClosIs.nil (S := S) isClos_r hL.2.1 hL.2.2.1
    have FA : Agr S (fu (au S (136 + 1) (List.replicate 24 0)) 136 2 0) 0 136 := (Agr.au (by omega)).tr (Agr.fu (by omega))
    have FB : Agr S (fu (au S (136 + 1) (List.replicate 24 0)) 136 2 0) 139 300 := (Agr.au (by omega)).tr (Agr.fu (by omega))
    generalize fu (au S (136 + 1) (List.replicate 24 0)) 136 2 0 = A at *
    have hS1 : ShelfIs A sh cap l := hS.agr (fun b q1 q2 => FA b (by omega) (by omega))
    obtain ⟨S1, g1, g2, g3⟩ := c_include (id := id) (Or.inr hsh) hcap hS1 hC0 (by simp)
    have ag1 : ∀ b, b < 136 ∨ (139 ≤ b ∧ b < 300) → (∀ j, S1.1 b j = S.1 b j) ∧ S1.2 b = S.2 b := by
      intro b hb
      rcases hb with q | ⟨q1, q2⟩
      · have w1 := FA b (by omega) q
        have w2 := g3 0 136 (Or.inr (by omega)) b (by omega) q
        exact ⟨fun j => (w2.1 j).trans (w1.1 j), w2.2.trans w1.2⟩
      · have w1 := FB b q1 q2
        have w2 := g3 139 300 (Or.inl (by omega)) b q1 q2
        exact ⟨fun j => (w2.1 j).trans (w1.1 j), w2.2.trans w1.2⟩
    have t1 := fun S => sht (S := S) hS.1
    have go : runv 17 5 [some (.ref 1), some (.int s), some (.int id), none] [.ref sh] (hp S) = some (some (.int (cloN l id)), hp S1) := by
      unfold cloN
      simp only [s17_5, n17_5, s17_6, n17_6, s17_7, n17_7, s17_10, s17_11, s17_12, s17_13, s17_16, s17_19, s17_20, s17_23, n17_23, s17_24, s17_25, s17_28, s17_31, s17_32, s17_35, s17_38, s17_41, s17_42, p7, List.length_cons, List.length_nil, Nat.reduceAdd, Nat.reduceLeDiff, Nat.zero_le, tc, ec, g1, c_found g2, vbind_some, vpush_some, vpush_none, if_bI]
      by_cases q : (incl l 24 id []).1 = true
      · rw [if_pos q, if_pos q]
      · rw [if_neg q, if_neg q]
    have hcall := e.trans go
    refine ⟨S1, hcall, ?_, fun b q1 q2 => ag1 b (by omega)⟩
    have F : Fr S S1 (fun b _ => ¬ (b < 136 ∨ (139 ≤ b ∧ b < 300))) (fun b => ¬ (b < 136 ∨ (139 ≤ b ∧ b < 300))) := ⟨fun b j q => (ag1 b (Classical.not_not.mp q)).1 j, fun b q => (ag1 b (Classical.not_not.mp q)).2⟩
    obtain ⟨h1, h2, h3, h4, h5, h6, h7, h8, h9⟩ := h
    exact ⟨h1.fr F (by omega) (by omega), h2, h3.fr F (fun b j q => by omega) (fun b q => by omega), h4.fr F (fun b j q => by omega) (fun b q => by omega), by rw [(ag1 131 (by omega)).2, h5], h6, h7.fr F (by omega) (by omega), h8.fr F (by omega) (by omega), h9.keep hcall⟩
  unfold sideOf
  by_cases q0 : s = 0
  · rw [if_pos q0]
    rw [if_pos q0] at st
    exact key 4 16 os h3 (by omega) (by omega) st
  · rw [if_neg q0]
    rw [if_neg q0] at st
    by_cases q1 : s = 1
    · rw [if_pos q1]
      rw [if_pos q1] at st
      exact key 54 24 cs h4 (by omega) (by omega) st
    · rw [if_neg q1]
      rw [if_neg q1] at st
      refine ⟨S, ?_, h, Agr.rf⟩
      rw [st]
      simp only [s17_5, n17_5, s17_6, n17_6, s17_7, n17_7, s17_10, s17_11, s17_12, s17_13, s17_16, s17_19, s17_20, s17_23, n17_23, s17_24, s17_25, s17_28, s17_31, s17_32, s17_35, s17_38, s17_41, s17_42]
/-- what receive answers, and the client after it -/
noncomputable def rcv (bs : List Nat) (cs : List Obj) : Int32 × List Obj := match rdPack bs with
  | .inl f => (-1 - nI f, cs)
  | .inr es => if rdy (wkOut cs es) = es.length then
      @ite (Int32 × List Obj) (sndF cs ((wkOut cs es).filterMap id) 0) (Classical.propDecidable _)
        (if newF cs [] ((wkOut cs es).filterMap id) ≤ 24 - cs.length then (nI (newF cs [] ((wkOut cs es).filterMap id)), kpF cs ((wkOut cs es).filterMap id)) else (-1002, cs))
        (-1001, cs)
    else (-1000, cs)
theorem newF_le (cs : List Obj) : ∀ (t pre : List Obj), newF cs pre t ≤ t.length := by
  intro t
  induction t with
  | nil => intro pre; exact Nat.le_refl _
  | cons o t ih =>
    intro pre
    unfold newF
    have := ih (pre ++ [o])
    rw [List.length_cons]
    split <;> omega
theorem m_receive (h : ClsIs S (bs, os, cs, rf, wn, hv)) : Meth S 12 [] (rcv bs cs).1 (bs, os, (rcv bs cs).2, rf, wn, hv) := by
  have h0 := h
  obtain ⟨h1, h2, h3, h4, h5, h6, h7, h8, h9⟩ := h
  simp only at h1 h2 h3 h4 h5 h6 h7 h8
  have t := fun S => rtR (S := S)
  have tc := fun S => sht (S := S) h4.1
  have hle : cs.length ≤ 24 := h4.2.1
  have mR : ∀ b j, PR b j → PS b j := by
    rintro b j (⟨q, -⟩ | ⟨q1, q2⟩)
    · exact ⟨by omega, by omega, by omega, by omega⟩
    · exact ⟨by omega, by omega, by omega, by omega⟩
  have mA : ∀ b, AR b → AS b := by
    rintro b ⟨q1, q2⟩
    exact ⟨by omega, by omega, by omega, by omega, by omega⟩
  have mW : ∀ b j, PW b j → PS b j := by
    rintro b j ⟨q1, q2⟩
    exact ⟨by omega, by omega, by omega, by omega⟩
  have fin : ∀ (S1 : vSt) (v : Int32), callv 12 [.ref 1] (hp S) = some (some (.int v), hp S1) → Fr S S1 PS AS → Meth S 12 [] v (bs, os, cs, rf, wn, hv) := fun S1 v e F => ⟨S1, e, h0.sc F (h9.keep e), F.agr (fun b j q => q.2.1) (fun b q => q.2.1)⟩
  have st : callv 12 [.ref 1] (hp S) = vbind (callv 111 [.ref 151] (hp S)) (fun v h' => runv 12 7 [some (.ref 1)] (vpush v []) h') := by
    show runv 12 0 [some (.ref 1)] [] (hp S) = _
    simp only [s12_0, s12_1, s12_4, p10, List.length_cons, List.length_nil, Nat.reduceAdd, Nat.reduceLeDiff, Nat.zero_le, t]
  obtain ⟨S1, f1, g1⟩ := c_readPack h1 h2 h9.2.2.2.2.2.2.1
  have F1 := f1.mono mR mA
  unfold rcv
  cases hr : rdPack bs with
  | inl f =>
    rw [hr] at g1
    simp only at g1 ⊢
    refine fin S1 _ ?_ F1
    rw [st, g1.1]
    simp only [vbind_some, vpush_some, s12_7, s12_10, s12_11, s12_12, s12_15, s12_18, s12_19, p10, List.length_cons, List.length_nil, Nat.reduceAdd, Nat.reduceLeDiff, Nat.zero_le, t, c_fault, g1.2]
    rw [if_pos trivial]
  | inr es =>
    rw [hr] at g1
    simp only at g1 ⊢
    have hC1 := h4.fr f1 (by rintro b j (⟨q, -⟩ | ⟨q1, q2⟩) <;> omega) (by rintro b ⟨q1, q2⟩; omega)
    have hl1 : ∀ e, e < 16 → (S1.2 (158 + 6 * e)).length = 24 := by
      intro e he
      have hsk : ∀ e, e < 16 → sk[158 + 6 * e]? = some (100, []) := by decide +kernel
      rw [len_keep g1.1 (hsk e he), h9.2.2.2.2.2.2.2 e he]
    obtain ⟨S2, e2, f2, w2, l2⟩ := c_workOut g1.2 hl1 hC1
    have F2 := F1.tr (f2.mono mW mA)
    have hC2 := hC1.fr f2 (by rintro b j ⟨q1, q2⟩; omega) (by rintro b ⟨q1, q2⟩; omega)
    have st2 : callv 12 [.ref 1] (hp S) = if decide (rdy (wkOut cs es) = es.length) = true then runv 12 34 [some (.ref 1)] [] (hp S2) else some (some (.int (-1000)), hp S2) := by
      rw [st, g1.1]
      simp only [vbind_some, vpush_some, s12_7]
      rw [if_neg (show ¬ (1 : Int32) = 0 by decide)]
      simp only [s12_20, s12_21, s12_24, s12_27, s12_30, s12_33, p10, List.length_cons, List.length_nil, Nat.reduceAdd, Nat.reduceLeDiff, Nat.zero_le, t, e2, vbind_some, vpush_some, if_bI]
    by_cases hq : rdy (wkOut cs es) = es.length
    · rw [if_pos hq]
      rw [if_pos (decide_eq_true hq)] at st2
      have hG := w2.got l2 hq
      generalize (wkOut cs es).filterMap id = gs at *
      obtain ⟨b, b1, b2⟩ := c_isSound hG hC2
      have st3 : callv 12 [.ref 1] (hp S) = if b = true then (if nI (newF cs [] gs) ≤ nI (24 - cs.length) then runv 12 69 [some (.ref 1)] [] (hp S2) else some (some (.int (-1002)), hp S2)) else some (some (.int (-1001)), hp S2) := by
        rw [st2]
        simp only [s12_34, s12_35, s12_38, s12_41, s12_44, s12_47, s12_48, s12_49, s12_52, s12_55, s12_56, s12_59, s12_62, s12_65, s12_68, p10, p2, List.length_cons, List.length_nil, Nat.reduceAdd, Nat.reduceLeDiff, Nat.zero_le, t, tc, b2, c_newItems hG hC2, c_shLeft hC2, vbind_some, vpush_some, if_bI]
      by_cases hb : sndF cs gs 0
      · rw [if_pos hb]
        rw [if_pos (b1.mpr hb)] at st3
        have hn := newF_le cs gs []
        have hg := hG.2.1
        by_cases hc : newF cs [] gs ≤ 24 - cs.length
        · rw [if_pos hc]
          rw [if_pos (nI_le hc (by omega))] at st3
          obtain ⟨S3, e3, f3, k3⟩ := c_keepNew hG hC2 (by omega)
          have e : callv 12 [.ref 1] (hp S) = some (some (.int (nI (newF cs [] gs))), hp S3) := by
            rw [st3]
            simp only [s12_69, s12_70, s12_73, s12_76, p10, List.length_cons, List.length_nil, Nat.reduceAdd, Nat.reduceLeDiff, Nat.zero_le, t, e3, vbind_some, vpush_some]
          refine ⟨S3, e, ?_, ?_⟩
          · have F3 : Fr S S3 (fun b j => PS b j ∨ PKc b j) (fun b => AS b ∨ AKc b) := (F2.mono (fun b j q => Or.inl q) (fun b q => Or.inl q)).tr (f3.mono (fun b j q => Or.inr q) (fun b q => Or.inr q))
            refine ⟨h1.fr F3 ?_ ?_, h2, h3.fr F3 ?_ ?_, k3, ?_, h6, h7.fr F3 ?_ ?_, h8.fr F3 ?_ ?_, h9.keep e⟩
            · rintro (⟨q, -⟩ | ⟨q, q2⟩) <;> omega
            · rintro (⟨q, -⟩ | ⟨q, q2⟩) <;> omega
            · rintro b j (⟨q, -⟩ | ⟨q, q2⟩) <;> omega
            · rintro b (⟨q, -⟩ | ⟨q, q2⟩) <;> omega
            · rw [F3.2 131 (by rintro (⟨-, -, q, -⟩ | ⟨q, q2⟩)
                               · exact q rfl
                               · omega)]
              exact h5
            · rintro (⟨-, -, q, -⟩ | ⟨q, q2⟩)
              · exact q rfl
              · omega
            · rintro (⟨-, -, -, q, -⟩ | ⟨q, q2⟩)
              · exact q rfl
              · omega
            · rintro (⟨-, -, -, q⟩ | ⟨q, q2⟩)
              · exact q rfl
              · omega
            · rintro (⟨-, -, -, -, q⟩ | ⟨q, q2⟩)
              · exact q rfl
              · omega
          · intro b q1 q2
            refine ⟨fun j => ?_, ?_⟩
            · rw [f3.1 b j (by rintro ⟨z1, z2⟩; omega), F2.1 b j (by rintro ⟨z1, z2, -⟩; omega)]
            · rw [f3.2 b (by rintro ⟨z1, z2⟩; omega), F2.2 b (by rintro ⟨z1, z2, -⟩; omega)]
        · rw [if_neg hc]
          rw [if_neg (nI_ge (by omega) (by omega))] at st3
          exact fin S2 _ st3 F2
      · rw [if_neg hb]
        rw [if_neg (fun z => hb (b1.mp z))] at st3
        exact fin S2 _ st3 F2
    · rw [if_neg hq]
      rw [if_neg (by rw [decide_eq_false hq]; decide)] at st2
      exact fin S2 _ st2 F2
end CLS4
