/-! the reference: looking up -/
theorem in01 {s : Int32} : (0 ≤ s ∧ s ≤ 1) ↔ (s = 0 ∨ s = 1) := by
  constructor
  · rintro ⟨a, b⟩
    obtain ⟨x, hx, rfl⟩ := nat_of (N := 1) (Int32.not_lt.mpr a) b (by omega)
    have : x = 0 ∨ x = 1 := by omega
    rcases this with rfl | rfl
    · exact Or.inl rfl
    · exact Or.inr rfl
  · rintro (rfl | rfl) <;> decide
section REF6
variable {S : vSt} {bs : List Nat} {os cs : List Obj} {rf wn hv : List Int32}
theorem c_rseek (h : ModIs S (bs, os, cs, rf, wn, hv)) (u0 : Uniq os) (u1 : Uniq cs) (s id : Int32) : match objOn os cs s id with
    | none => callv 69 [.ref 249, .int s, .int id] (hp S) = some (some (.int (-1)), hp S)
    | some o => ∃ i : Nat, callv 69 [.ref 249, .int s, .int id] (hp S) = some (some (.int (nI i)), hp S) ∧ SltIs S i o := by
  have tq := qt (S := S)
  have hL := h.1
  have h5 : SideIs S 0 os := h.2.2.2.2.1
  have h6 : SideIs S 1 cs := h.2.2.2.2.2.1
  have st : callv 69 [.ref 249, .int s, .int id] (hp S) = if decide (0 ≤ s ∧ s ≤ 1) = true then vbind (callv 33 [.ref 249, .int s, .int id] (hp S)) (fun v h' => runv 69 15 [some (.ref 249), some (.int s), some (.int id)] (vpush v []) h') else some (some (.int (-1)), hp S) := by
    show runv 69 0 [some (.ref 249), some (.int s), some (.int id)] [] (hp S) = _
    simp only [s69_0, s69_1, s69_2, s69_3, s69_6, s69_9, s69_10, s69_11, s69_12, s69_18, s69_19, List.length_cons, List.length_nil, Nat.reduceAdd, Nat.reduceLeDiff, Nat.zero_le, tq, c_in, vbind_some, vpush_some, if_bI]
  have key : ∀ (n : Nat) (l : List Obj), SideIs S n l → Uniq l → s = nI n → match (match fIdx l id with | none => none | some j => l[j]?) with
      | none => vbind (callv 33 [.ref 249, .int s, .int id] (hp S)) (fun v h' => runv 69 15 [some (.ref 249), some (.int s), some (.int id)] (vpush v []) h') = some (some (.int (-1)), hp S)
      | some o => ∃ i : Nat, vbind (callv 33 [.ref 249, .int s, .int id] (hp S)) (fun v h' => runv 69 15 [some (.ref 249), some (.int s), some (.int id)] (vpush v []) h') = some (some (.int (nI i)), hp S) ∧ SltIs S i o := by
    intro n l hS hu hs
    subst hs
    rw [c_rfind hL hS hu]
    cases hf : fIdx l id with
    | none =>
      simp only [vbind_some, vpush_some, s69_15, s69_18, s69_19, oJ]
    | some j =>
      have hj := fIdx_lt hf
      simp only [List.getElem?_eq_getElem hj]
      refine ⟨st0 n + j, ?_, hS.2.2.2 j _ (List.getElem?_eq_getElem hj)⟩
      simp only [vbind_some, vpush_some, s69_15, s69_18, s69_19, oJ]
  rw [st]
  unfold objOn sideOf
  by_cases q0 : s = 0
  · rw [if_pos q0, if_pos (decide_eq_true (in01.mpr (Or.inl q0)))]
    exact key 0 os h5 u0 q0
  · rw [if_neg q0]
    by_cases q1 : s = 1
    · rw [if_pos q1, if_pos (decide_eq_true (in01.mpr (Or.inr q1)))]
      exact key 1 cs h6 u1 q1
    · rw [if_neg q1]
      exact if_neg (by rw [decide_eq_false (fun z => (in01.mp z).elim q0 q1)]; decide)
theorem w_kind (h : ModIs S (bs, os, cs, rf, wn, hv)) (u0 : Uniq os) (u1 : Uniq cs) (s id : Int32) : RMeth S 70 [.int s, .int id] (match objOn os cs s id with | none => 0 | some o => nI o.1) (bs, os, cs, rf, wn, hv) := by
  have tq := qt (S := S)
  have hL := h.1
  have e := c_rseek h u0 u1 s id
  refine ⟨S, ?_, h, Agr.rf⟩
  show runv 70 0 [some (.ref 249), some (.int s), some (.int id), none] [] (hp S) = _
  cases ho : objOn os cs s id with
  | none =>
    rw [ho] at e
    simp only at e
    simp only [s70_0, s70_1, s70_2, s70_3, s70_6, s70_7, s70_8, s70_11, s70_12, s70_15, s70_16, s70_19, s70_20, s70_21, List.length_cons, List.length_nil, Nat.reduceAdd, Nat.reduceLeDiff, Nat.zero_le, tq, e, vbind_some, vpush_some]
    rw [if_neg (by decide)]
  | some o =>
    rw [ho] at e
    obtain ⟨i, e1, e2⟩ := e
    simp only [s70_0, s70_1, s70_2, s70_3, s70_6, s70_7, s70_8, s70_11, s70_12, s70_15, s70_16, s70_19, s70_20, s70_21, List.length_cons, List.length_nil, Nat.reduceAdd, Nat.reduceLeDiff, Nat.zero_le, tq, e1, vbind_some, vpush_some, q3, g252 hL e2.1, e2.2.1]
    rw [if_pos (nI_pos' (by have := e2.1; omega))]
theorem w_length (h : ModIs S (bs, os, cs, rf, wn, hv)) (u0 : Uniq os) (u1 : Uniq cs) (s id : Int32) : RMeth S 71 [.int s, .int id] (match objOn os cs s id with | none => -1 | some o => nI o.2.length) (bs, os, cs, rf, wn, hv) := by
  have tq := qt (S := S)
  have hL := h.1
  have e := c_rseek h u0 u1 s id
  refine ⟨S, ?_, h, Agr.rf⟩
  show runv 71 0 [some (.ref 249), some (.int s), some (.int id), none] [] (hp S) = _
  cases ho : objOn os cs s id with
  | none =>
    rw [ho] at e
    simp only at e
    simp only [s71_0, s71_1, s71_2, s71_3, s71_6, s71_7, s71_8, s71_11, s71_12, s71_15, s71_16, s71_19, s71_20, s71_21, List.length_cons, List.length_nil, Nat.reduceAdd, Nat.reduceLeDiff, Nat.zero_le, tq, e, vbind_some, vpush_some]
    rw [if_neg (by decide)]
  | some o =>
    rw [ho] at e
    obtain ⟨i, e1, e2⟩ := e
    simp only [s71_0, s71_1, s71_2, s71_3, s71_6, s71_7, s71_8, s71_11, s71_12, s71_15, s71_16, s71_19, s71_20, s71_21, List.length_cons, List.length_nil, Nat.reduceAdd, Nat.reduceLeDiff, Nat.zero_le, tq, e1, vbind_some, vpush_some, q4, g253 hL e2.1, e2.2.2.1]
    rw [if_pos (nI_pos' (by have := e2.1; omega))]
theorem w_content (h : ModIs S (bs, os, cs, rf, wn, hv)) (u0 : Uniq os) (u1 : Uniq cs) (s id i : Int32) : RMeth S 72 [.int s, .int id, .int i] (match objOn os cs s id with | none => -1 | some o => rget o.2 i) (bs, os, cs, rf, wn, hv) := by
  have tq := qt (S := S)
  have hL := h.1
  have e := c_rseek h u0 u1 s id
  refine ⟨S, ?_, h, Agr.rf⟩
  show runv 72 0 [some (.ref 249), some (.int s), some (.int id), some (.int i), none] [] (hp S) = _
  cases ho : objOn os cs s id with
  | none =>
    rw [ho] at e
    simp only at e
    simp only [s72_0, s72_1, s72_2, s72_3, s72_6, s72_8, s72_10, s72_30, s72_31, s72_46, List.length_cons, List.length_nil, Nat.reduceAdd, Nat.reduceLeDiff, Nat.zero_le, tq, e, vbind_some, vpush_some]
    rw [if_pos (by decide)]
  | some o =>
    rw [ho] at e
    obtain ⟨n, e1, e2⟩ := e
    obtain ⟨v1, v2, v3, v4, v5, v6, v7, v8⟩ := e2
    have st : runv 72 0 [some (.ref 249), some (.int s), some (.int id), some (.int i), none] [] (hp S) = if decide (0 ≤ i ∧ i ≤ nI o.2.length - 1) = true then runv 72 34 [some (.ref 249), some (.int s), some (.int id), some (.int i), some (.int (nI n))] [] (hp S) else some (some (.int (-1)), hp S) := by
      simp only [s72_0, s72_1, s72_2, s72_3, s72_6, s72_8, s72_10, s72_13, s72_14, s72_15, s72_16, s72_19, s72_21, s72_22, s72_23, s72_24, s72_27, s72_30, s72_31, s72_46, List.length_cons, List.length_nil, Nat.reduceAdd, Nat.reduceLeDiff, Nat.zero_le, tq, e1, vbind_some, vpush_some, q4, g253 hL v1, v3, c_in, if_bI]
      rw [if_neg (nI_pos (by omega))]
    rw [st]
    simp only
    unfold rget
    by_cases h1 : i < 0
    · rw [if_pos h1, if_neg (by rw [decide_eq_false (fun q => (inR (by omega)).mp q |>.1 h1)]; decide)]
    · rw [if_neg h1]
      by_cases h2 : i < nI o.2.length
      · rw [if_pos h2, if_pos (decide_eq_true ((inR (by omega)).mpr ⟨h1, h2⟩))]
        obtain ⟨x, hx, rfl⟩ := lt_nat h1 h2 (by omega)
        simp only [s72_34, s72_35, s72_38, s72_40, s72_42, s72_43, s72_44, s72_45, s72_46, q5, x24, nI_add, g254 hL (show 24 * n + x < 1368 by omega), v4 x hx]
        rw [nI_clamp (by omega)]
      · rw [if_neg h2, if_neg (by rw [decide_eq_false (fun q => h2 ((inR (by omega)).mp q).2)]; decide)]
theorem w_count (h : ModIs S (bs, os, cs, rf, wn, hv)) (s : Int32) : RMeth S 74 [.int s] (match sideOf os cs s with | none => -1 | some l => nI l.length) (bs, os, cs, rf, wn, hv) := by
  have hL := h.1
  have h5 : SideIs S 0 os := h.2.2.2.2.1
  have h6 : SideIs S 1 cs := h.2.2.2.2.2.1
  refine ⟨S, ?_, h, Agr.rf⟩
  have st : callv 74 [.ref 249, .int s] (hp S) = if decide (0 ≤ s ∧ s ≤ 1) = true then runv 74 9 [some (.ref 249), some (.int s)] [] (hp S) else some (some (.int (-1)), hp S) := by
    show runv 74 0 [some (.ref 249), some (.int s)] [] (hp S) = _
    simp only [s74_0, s74_1, s74_2, s74_3, s74_6, s74_18, s74_19, List.length_cons, List.length_nil, Nat.reduceAdd, Nat.reduceLeDiff, Nat.zero_le, c_in, vbind_some, vpush_some, if_bI]
  rw [st]
  unfold sideOf
  by_cases q0 : s = 0
  · rw [if_pos q0, if_pos (decide_eq_true (in01.mpr (Or.inl q0)))]
    simp only [s74_9, s74_10, s74_13, s74_14, s74_15, s74_18, s74_19, q2, q0]
    rw [show (0 : Int32) = nI 0 from rfl, g251 hL (by omega), h5.2.1, s74_19]
  · rw [if_neg q0]
    by_cases q1 : s = 1
    · rw [if_pos q1, if_pos (decide_eq_true (in01.mpr (Or.inr q1)))]
      simp only [s74_9, s74_10, s74_13, s74_14, s74_15, s74_18, s74_19, q2, q1]
      rw [show (1 : Int32) = nI 1 from rfl, g251 hL (by omega), h6.2.1, s74_19]
    · rw [if_neg q1]
      exact if_neg (by rw [decide_eq_false (fun z => (in01.mp z).elim q0 q1)]; decide)
end REF6
