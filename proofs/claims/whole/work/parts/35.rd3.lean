/-! reading packs: runs -/
def PRn (rt : Nat) : Nat → Nat → Prop := fun b j => (b = 151 ∧ (j = 4 ∨ j = 5)) ∨ (b = rt ∧ j = 1)
section RUNS
variable {rt at_ : Nat} {bs : List Nat}
theorem c_runA (hrt : 151 < rt) (hat : at_ ≠ 3) (bb : ∀ x ∈ bs, x < 256) {run : Nat} (hrun : run ≤ 255) : ∀ k i p ts S v4, i + k = run → RowIs S 2 3 500 bs → RowIs S rt at_ 255 ts → S.1 151 4 = nI p → p ≤ bs.length → ts.length + k ≤ 255 → ∃ S1, Fr S S1 (PRn rt) (fun b => b = at_) ∧ if p + k ≤ bs.length then runv 120 6 [some (.ref 151), some (.ref rt), some (.int (nI run)), some (.int 0), v4, some (.int (nI i))] [] (hp S) = some (some (.int 1), hp S1) ∧ RowIs S1 rt at_ 255 (ts ++ (bs.drop p).take k) ∧ S1.1 151 4 = nI (p + k) else runv 120 6 [some (.ref 151), some (.ref rt), some (.int (nI run)), some (.int 0), v4, some (.int (nI i))] [] (hp S) = some (some (.int 0), hp S1) ∧ S1.1 151 5 = nI bs.length := by
  have Q4 : PRn rt 151 4 := Or.inl ⟨rfl, Or.inl rfl⟩
  have Q5 : PRn rt 151 5 := Or.inl ⟨rfl, Or.inr rfl⟩
  have R1 : PRn rt rt 1 := Or.inr ⟨rfl, rfl⟩
  intro k
  induction k with
  | zero =>
    intro i p ts S v4 hi hB hT hpl hp0 hts
    refine ⟨S, Fr.rf, ?_⟩
    rw [if_pos (by omega), s120_6]
    simp only [s120_0, s120_1, s120_3, s120_4, s120_8, s120_9, s120_12, s120_14, s120_17, s120_18, s120_21, s120_22, s120_23, s120_26, s120_29, s120_31, s120_33, s120_36, s120_37, s120_38, n120_38, s120_39, s120_41, s120_44, s120_47, s120_50, s120_51, vb1]
    rw [if_pos (nI_le (by omega) (by omega))]
    exact ⟨rfl, by simpa using hT, by rw [Nat.add_zero]; exact hpl⟩
  | succ k ih =>
    intro i p ts S v4 hi hB hT hpl hp0 hts
    have b5 := hB.2.2.2.2.1
    have t1 := fun S => rtR (S := S)
    have t2 := fun S => rowt (S := S) hT.1
    have hx := getD_lt bb p
    have e1 := c_next hB bb hpl (by omega) (lo := 0) (hi := 255) (by omega) (by omega)
    have start : runv 120 6 [some (.ref 151), some (.ref rt), some (.int (nI run)), some (.int 0), v4, some (.int (nI i))] [] (hp S) = vbind (callv 112 [.ref 151, .int (nI 0), .int (nI 255)] (hp S)) (fun v h' => runv 120 29 [some (.ref 151), some (.ref rt), some (.int (nI run)), some (.int 0), v4, some (.int (nI i))] (vpush v []) h') := by
      rw [s120_6]
      simp only [s120_8, s120_9, s120_12, s120_14, s120_17, s120_18, s120_21, s120_22, s120_23, s120_26, List.length_cons, List.length_nil, Nat.reduceAdd, Nat.reduceLeDiff, Nat.zero_le, t1, if_true]
      rw [if_neg (nI_ge (by omega) (by omega))]
      split <;> rfl
    rw [start, e1]
    by_cases h1 : p < bs.length
    · rw [if_pos (show p < bs.length ∧ 0 ≤ bs.getD p 0 ∧ bs.getD p 0 ≤ 255 from ⟨h1, Nat.zero_le _, by omega⟩)]
      have hT1 : RowIs (fu S 151 4 (nI (p + 1))) rt at_ 255 ts := hT.fu (by omega)
      have hB1 : RowIs (fu S 151 4 (nI (p + 1))) 2 3 500 bs := hB.fu (by omega)
      have e2 := c_add hT1 (x := bs.getD p 0) (by omega)
      have hT2 := hT1.set (cs := ts ++ [bs.getD p 0]) (by rw [List.length_append, List.length_singleton]; omega)
      have hB2 : RowIs (rowSet (fu S 151 4 (nI (p + 1))) rt at_ (ts ++ [bs.getD p 0])) 2 3 500 bs := hB1.other (by omega) (Ne.symm hat)
      have f2 : (rowSet (fu S 151 4 (nI (p + 1))) rt at_ (ts ++ [bs.getD p 0])).1 151 4 = nI (p + 1) := by rw [rowSet, au_1, fu_a _ _ (by omega), fu_at]
      obtain ⟨S1, g1, g2⟩ := ih (i + 1) (p + 1) (ts ++ [bs.getD p 0]) _ (some (.int (nI (bs.getD p 0)))) (by omega) hB2 hT2 f2 (by omega) (by rw [List.length_append, List.length_singleton]; omega)
      refine ⟨S1, ((Fr.fu Q4).tr (Fr.row (A := fun b => b = at_) R1 rfl)).tr g1, ?_⟩
      have mid : vbind (some (some (.int (nI (bs.getD p 0))), hp (fu S 151 4 (nI (p + 1))))) (fun v h' => runv 120 29 [some (.ref 151), some (.ref rt), some (.int (nI run)), some (.int 0), v4, some (.int (nI i))] (vpush v []) h') = runv 120 6 [some (.ref 151), some (.ref rt), some (.int (nI run)), some (.int 0), some (.int (nI (bs.getD p 0))), some (.int (nI (i + 1)))] [] (hp (rowSet (fu S 151 4 (nI (p + 1))) rt at_ (ts ++ [bs.getD p 0]))) := by
        simp only [vbind_some, vpush_some, s120_29, s120_31, s120_33]
        rw [if_pos (nI_pos' (by omega))]
        simp only [s120_38, n120_38, s120_39, s120_41, s120_44, s120_47, List.length_cons, List.length_nil, Nat.reduceAdd, Nat.reduceLeDiff, Nat.zero_le, t2, e2, vbind_some, vpush_none, nI_1]
      rw [mid]
      by_cases hk : p + (k + 1) ≤ bs.length
      · rw [if_pos (by omega)] at g2
        rw [if_pos hk]
        refine ⟨g2.1, ?_, by rw [g2.2.2]; congr 1; omega⟩
        have e3 : ts ++ (bs.drop p).take (k + 1) = ts ++ [bs.getD p 0] ++ (bs.drop (p + 1)).take k := by
          rw [drop_cons h1, List.take_succ_cons, List.append_assoc]
          rfl
        rw [e3]
        exact g2.2.1
      · rw [if_neg (by omega)] at g2
        rw [if_neg hk]
        exact g2
    · rw [if_neg (show ¬ (p < bs.length ∧ 0 ≤ bs.getD p 0 ∧ bs.getD p 0 ≤ 255) from fun q => h1 q.1)]
      refine ⟨fu S 151 5 (nI p), Fr.fu Q5, ?_⟩
      rw [if_neg (by omega)]
      refine ⟨?_, by rw [fu_at]; congr 1; omega⟩
      simp only [vbind_some, vpush_some, s120_29, s120_31, s120_33]
      rw [if_neg (by decide), s120_36, s120_37 vb0]
theorem c_runB (hrt : 151 < rt) {run x : Nat} (hrun : run ≤ 255) (hx : x < 256) : ∀ k i ts S, i + k = run → 0 < i → RowIs S rt at_ 255 ts → ts.length + k ≤ 255 → runv 120 6 [some (.ref 151), some (.ref rt), some (.int (nI run)), some (.int 1), some (.int (nI x)), some (.int (nI i))] [] (hp S) = some (some (.int 1), hp (rowSet S rt at_ (ts ++ List.replicate k x))) := by
  intro k
  induction k with
  | zero =>
    intro i ts S hi h0 hT hts
    rw [s120_6]
    simp only [s120_0, s120_1, s120_3, s120_4, s120_8, s120_9, s120_12, s120_14, s120_17, s120_18, s120_21, s120_22, s120_23, s120_26, s120_29, s120_31, s120_33, s120_36, s120_37, s120_38, n120_38, s120_39, s120_41, s120_44, s120_47, s120_50, s120_51, vb1]
    rw [if_pos (nI_le (by omega) (by omega)), List.replicate_zero, List.append_nil, rowSet_self hT]
  | succ k ih =>
    intro i ts S hi h0 hT hts
    have t2 := fun S => rowt (S := S) hT.1
    have e2 := c_add hT (x := x) (by omega)
    have hT2 := hT.set (cs := ts ++ [x]) (by rw [List.length_append, List.length_singleton]; omega)
    rw [s120_6]
    simp only [s120_8, s120_9, s120_12, s120_14, s120_17, s120_18, s120_31, s120_33]
    rw [if_neg (nI_ge (by omega) (by omega)), if_neg (nI_ne0 h0 (by omega)), if_neg (show ¬ (1 : Int32) = 0 by decide), if_pos (nI_pos' (by omega))]
    simp only [s120_38, n120_38, s120_39, s120_41, s120_44, s120_47, List.length_cons, List.length_nil, Nat.reduceAdd, Nat.reduceLeDiff, Nat.zero_le, t2, e2, vbind_some, vpush_none, nI_1]
    rw [ih (i + 1) (ts ++ [x]) _ (by omega) (by omega) hT2 (by rw [List.length_append, List.length_singleton]; omega), rowSet_grow (by simp), List.append_assoc]
    rfl
theorem c_readRun (hrt : 151 < rt) (hat : at_ ≠ 3) (bb : ∀ x ∈ bs, x < 256) {S : vSt} {run p : Nat} {rep : Bool} {ts : List Nat} (hrun : run ≤ 255) (hr1 : 1 ≤ run) (hB : RowIs S 2 3 500 bs) (hT : RowIs S rt at_ 255 ts) (hpl : S.1 151 4 = nI p) (hp0 : p ≤ bs.length) (hts : ts.length + run ≤ 255) : ∃ S1, Fr S S1 (PRn rt) (fun b => b = at_) ∧ if p + (if rep = true then 1 else run) ≤ bs.length then callv 120 [.ref 151, .ref rt, .int (nI run), .int (bI rep)] (hp S) = some (some (.int 1), hp S1) ∧ RowIs S1 rt at_ 255 (ts ++ if rep = true then List.replicate run (bs.getD p 0) else (bs.drop p).take run) ∧ S1.1 151 4 = nI (p + if rep = true then 1 else run) else callv 120 [.ref 151, .ref rt, .int (nI run), .int (bI rep)] (hp S) = some (some (.int 0), hp S1) ∧ S1.1 151 5 = nI bs.length := by
  have Q4 : PRn rt 151 4 := Or.inl ⟨rfl, Or.inl rfl⟩
  have Q5 : PRn rt 151 5 := Or.inl ⟨rfl, Or.inr rfl⟩
  have R1 : PRn rt rt 1 := Or.inr ⟨rfl, rfl⟩
  have b5 := hB.2.2.2.2.1
  have start : callv 120 [.ref 151, .ref rt, .int (nI run), .int (bI rep)] (hp S) = runv 120 6 [some (.ref 151), some (.ref rt), some (.int (nI run)), some (.int (bI rep)), some (.int (-1)), some (.int (nI 0))] [] (hp S) := by
    show runv 120 0 [some (.ref 151), some (.ref rt), some (.int (nI run)), some (.int (bI rep)), none, none] [] (hp S) = _
    simp only [s120_0, s120_1, s120_3, s120_4]
    rfl
  rw [start]
  cases rep with
  | false =>
    simp only [Bool.false_eq_true, if_false]
    exact c_runA hrt hat bb hrun run 0 p ts S _ (by omega) hB hT hpl hp0 hts
  | true =>
    simp only [if_true]
    have t1 := fun S => rtR (S := S)
    have t2 := fun S => rowt (S := S) hT.1
    have hx := getD_lt bb p
    have e1 := c_next hB bb hpl (by omega) (lo := 0) (hi := 255) (by omega) (by omega)
    have st2 : runv 120 6 [some (.ref 151), some (.ref rt), some (.int (nI run)), some (.int (bI true)), some (.int (-1)), some (.int (nI 0))] [] (hp S) = vbind (callv 112 [.ref 151, .int (nI 0), .int (nI 255)] (hp S)) (fun v h' => runv 120 29 [some (.ref 151), some (.ref rt), some (.int (nI run)), some (.int (bI true)), some (.int (-1)), some (.int (nI 0))] (vpush v []) h') := by
      rw [s120_6]
      simp only [s120_8, s120_9, s120_12, s120_14]
      rw [if_neg (nI_ge (by omega) (by omega)), if_pos (show nI 0 = 0 from rfl)]
      simp only [s120_21, s120_22, s120_23, s120_26, List.length_cons, List.length_nil, Nat.reduceAdd, Nat.reduceLeDiff, Nat.zero_le, t1]
      rfl
    rw [st2, e1]
    by_cases h1 : p < bs.length
    · rw [if_pos (show p < bs.length ∧ 0 ≤ bs.getD p 0 ∧ bs.getD p 0 ≤ 255 from ⟨h1, Nat.zero_le _, by omega⟩)]
      have hT1 : RowIs (fu S 151 4 (nI (p + 1))) rt at_ 255 ts := hT.fu (by omega)
      have e2 := c_add hT1 (x := bs.getD p 0) (by omega)
      have hT2 := hT1.set (cs := ts ++ [bs.getD p 0]) (by rw [List.length_append, List.length_singleton]; omega)
      have e3 := c_runB (at_ := at_) hrt hrun hx (run - 1) 1 (ts ++ [bs.getD p 0]) _ (by omega) (by omega) hT2 (by rw [List.length_append, List.length_singleton]; omega)
      have e4 : ts ++ [bs.getD p 0] ++ List.replicate (run - 1) (bs.getD p 0) = ts ++ List.replicate run (bs.getD p 0) := by
        rw [List.append_assoc]
        congr 1
        rw [show run = (run - 1) + 1 by omega, List.replicate_succ]
        simp
      rw [e4, rowSet_grow (by simp; omega)] at e3
      have hT3 := hT1.set (cs := ts ++ List.replicate run (bs.getD p 0)) (by rw [List.length_append, List.length_replicate]; omega)
      refine ⟨rowSet (fu S 151 4 (nI (p + 1))) rt at_ (ts ++ List.replicate run (bs.getD p 0)), (Fr.fu Q4).tr (Fr.row (A := fun b => b = at_) R1 rfl), ?_⟩
      rw [if_pos (by omega)]
      refine ⟨?_, hT3, by rw [rowSet, au_1, fu_a _ _ (by omega), fu_at]⟩
      simp only [vbind_some, vpush_some, s120_29, s120_31, s120_33]
      rw [if_pos (nI_pos' (by omega))]
      simp only [s120_38, n120_38, s120_39, s120_41, s120_44, s120_47, List.length_cons, List.length_nil, Nat.reduceAdd, Nat.reduceLeDiff, Nat.zero_le, t2, e2, vbind_some, vpush_none, nI_1]
      exact e3
    · rw [if_neg (show ¬ (p < bs.length ∧ 0 ≤ bs.getD p 0 ∧ bs.getD p 0 ≤ 255) from fun q => h1 q.1)]
      refine ⟨fu S 151 5 (nI p), Fr.fu Q5, ?_⟩
      rw [if_neg (by omega)]
      refine ⟨?_, by rw [fu_at]; congr 1; omega⟩
      simp only [vbind_some, vpush_some, s120_29, s120_31, s120_33]
      rw [if_neg (by decide), s120_36, s120_37 vb0]
end RUNS
def runN (c : Nat) : Nat := if c < 128 then c + 1 else c - 125
def rdRuns (bs : List Nat) : Nat → Nat → Nat → List Nat → Nat ⊕ (List Nat × Nat)
  | 0, _, p, ts => .inr (ts, p)
  | n + 1, left, p, ts => if left = 0 then .inr (ts, p)
    else if p < bs.length then
      if left < runN (bs.getD p 0) then .inl p
      else if bs.getD p 0 < 128 then
        if p + 1 + runN (bs.getD p 0) ≤ bs.length then rdRuns bs n (left - runN (bs.getD p 0)) (p + 1 + runN (bs.getD p 0)) (ts ++ (bs.drop (p + 1)).take (runN (bs.getD p 0))) else .inl bs.length
      else if p + 1 + 1 ≤ bs.length then rdRuns bs n (left - runN (bs.getD p 0)) (p + 1 + 1) (ts ++ List.replicate (runN (bs.getD p 0)) (bs.getD (p + 1) 0)) else .inl bs.length
    else .inl p
theorem c_readRuns_loop {ec : Nat} {bs : List Nat} (he : isEnt ec) (hec : 151 < ec) (bb : ∀ x ∈ bs, x < 256) : ∀ n left p ts S v2 v4, left < n → RowIs S 2 3 500 bs → RowIs S (ec + 1) (ec + 2) 255 ts → S.1 151 4 = nI p → p ≤ bs.length → ts.length + left ≤ 255 → ∃ S1, Fr S S1 (PRn (ec + 1)) (fun b => b = ec + 2) ∧ match rdRuns bs n left p ts with
    | .inl f => runv 119 12 [some (.ref 151), some (.ref ec), v2, some (.int (nI left)), v4] [] (hp S) = some (some (.int 0), hp S1) ∧ S1.1 151 5 = nI f
    | .inr (us, p1) => runv 119 12 [some (.ref 151), some (.ref ec), v2, some (.int (nI left)), v4] [] (hp S) = some (some (.int 1), hp S1) ∧ RowIs S1 (ec + 1) (ec + 2) 255 us ∧ S1.1 151 4 = nI p1 ∧ p1 ≤ bs.length ∧ us.length = ts.length + left := by
  have Q4 : PRn (ec + 1) 151 4 := Or.inl ⟨rfl, Or.inl rfl⟩
  have Q5 : PRn (ec + 1) 151 5 := Or.inl ⟨rfl, Or.inr rfl⟩
  intro n
  induction n with
  | zero => intro left p ts S v2 v4 hn; omega
  | succ n ih =>
    intro left p ts S v2 v4 hn hB hT hpl hp0 hts
    have b5 := hB.2.2.2.2.1
    have t1 := fun S => rtR (S := S)
    have hx := getD_lt bb p
    have e1 := c_next hB bb hpl (by omega) (lo := 0) (hi := 255) (by omega) (by omega)
    unfold rdRuns
    by_cases hl : left = 0
    · rw [if_pos hl]
      refine ⟨S, Fr.rf, ?_, hT, hpl, hp0, by omega⟩
      rw [s119_12]
      simp only [s119_0, n119_0, s119_1, s119_4, s119_7, n119_7, s119_8, s119_11, s119_13, s119_16, s119_17, s119_18, s119_21, s119_24, s119_26, s119_28, s119_31, s119_32, s119_33, s119_35, s119_38, s119_39, s119_40, s119_41, s119_44, s119_45, s119_48, s119_49, s119_50, n119_50, s119_51, s119_54, s119_55, s119_57, s119_60, s119_63, s119_64, s119_67, s119_68, s119_71, s119_74, s119_75, s119_76, s119_77, s119_78, s119_79, s119_80, s119_83, s119_84, vb1]
      rw [hl, if_pos (show nI 0 ≤ 0 by decide)]
    · rw [if_neg hl]
      have start : runv 119 12 [some (.ref 151), some (.ref ec), v2, some (.int (nI left)), v4] [] (hp S) = vbind (callv 112 [.ref 151, .int (nI 0), .int (nI 255)] (hp S)) (fun v h' => runv 119 24 [some (.ref 151), some (.ref ec), v2, some (.int (nI left)), v4] (vpush v []) h') := by
        rw [s119_12]
        simp only [s119_13, s119_16, s119_17, s119_18, s119_21, List.length_cons, List.length_nil, Nat.reduceAdd, Nat.reduceLeDiff, Nat.zero_le, t1]
        rw [if_neg (nI_nle (by omega) (by omega))]
        rfl
      rw [start, e1]
      by_cases h1 : p < bs.length
      · rw [if_pos (show p < bs.length ∧ 0 ≤ bs.getD p 0 ∧ bs.getD p 0 ≤ 255 from ⟨h1, Nat.zero_le _, by omega⟩), if_pos h1]
        generalize hc : bs.getD p 0 = c at *
        have hrl := c_runLength (h := hp (fu S 151 4 (nI (p + 1)))) (c := c) hx
        have hr1 : 1 ≤ runN c := by unfold runN; split <;> omega
        have hr2 : runN c ≤ 255 := by unfold runN; split <;> omega
        rw [show (if c < 128 then c + 1 else c - 125) = runN c from rfl] at hrl
        generalize hrr : runN c = run at *
        have hA4 : (fu S 151 4 (nI (p + 1))).1 151 4 = nI (p + 1) := fu_at _ _ _ _
        have mid : vbind (some (some (.int (nI c)), hp (fu S 151 4 (nI (p + 1))))) (fun v h' => runv 119 24 [some (.ref 151), some (.ref ec), v2, some (.int (nI left)), v4] (vpush v []) h') = if nI run ≤ nI left then vbind (callv 120 [.ref 151, .ref (ec + 1), .int (nI run), .int (bI (decide (128 ≤ c)))] (hp (fu S 151 4 (nI (p + 1))))) (fun v h' => runv 119 71 [some (.ref 151), some (.ref ec), some (.int (nI run)), some (.int (nI left)), some (.int (nI c))] (vpush v []) h') else some (some (.int 0), hp (fu (fu S 151 4 (nI (p + 1))) 151 5 (nI p))) := by
          simp only [vbind_some, vpush_some, s119_24, s119_26, s119_28]
          rw [if_pos (nI_pos' (by omega))]
          simp only [s119_33, s119_35, s119_38, s119_39, s119_40, s119_41, s119_44, s119_45, s119_48, s119_49, s119_50, n119_50, s119_51, s119_54, s119_55, s119_57, s119_60, s119_63, s119_64, s119_67, s119_68, n0 he, List.length_cons, List.length_nil, Nat.reduceAdd, Nat.reduceLeDiff, Nat.zero_le, t1, hrl, c_failAtLast hA4, vbind_some, vpush_some, vb0]
          by_cases q : c < 128
          · have e : decide (128 ≤ c) = false := decide_eq_false (by omega)
            rw [if_pos (show nI c < 128 from nI_lt (b := 128) q (by omega)), e]
            rfl
          · have e : decide (128 ≤ c) = true := decide_eq_true (by omega)
            rw [if_neg (show ¬ nI c < 128 from nI_nlt (b := 128) (by omega) (by omega)), e]
            rfl
        rw [mid]
        by_cases hlr : left < run
        · rw [if_neg (nI_ge hlr (by omega)), if_pos hlr]
          exact ⟨_, (Fr.fu Q4).tr (Fr.fu Q5), rfl, fu_at _ _ _ _⟩
        · rw [if_pos (nI_le (by omega) (by omega)), if_neg hlr]
          have hT1 : RowIs (fu S 151 4 (nI (p + 1))) (ec + 1) (ec + 2) 255 ts := hT.fu (by omega)
          have hB1 : RowIs (fu S 151 4 (nI (p + 1))) 2 3 500 bs := hB.fu (by omega)
          obtain ⟨S1, g1, g2⟩ := c_readRun (rep := decide (128 ≤ c)) (by omega) (by omega) bb hr2 hr1 hB1 hT1 hA4 (by omega) (by omega)
          have go : ∀ (us : List Nat) (p1 : Nat), callv 120 [.ref 151, .ref (ec + 1), .int (nI run), .int (bI (decide (128 ≤ c)))] (hp (fu S 151 4 (nI (p + 1)))) = some (some (.int 1), hp S1) → RowIs S1 (ec + 1) (ec + 2) 255 us → S1.1 151 4 = nI p1 → p1 ≤ bs.length → us.length = ts.length + run → ∃ S2, Fr S S2 (PRn (ec + 1)) (fun b => b = ec + 2) ∧ match rdRuns bs n (left - run) p1 us with
              | .inl f => vbind (callv 120 [.ref 151, .ref (ec + 1), .int (nI run), .int (bI (decide (128 ≤ c)))] (hp (fu S 151 4 (nI (p + 1))))) (fun v h' => runv 119 71 [some (.ref 151), some (.ref ec), some (.int (nI run)), some (.int (nI left)), some (.int (nI c))] (vpush v []) h') = some (some (.int 0), hp S2) ∧ S2.1 151 5 = nI f
              | .inr (us, p1) => vbind (callv 120 [.ref 151, .ref (ec + 1), .int (nI run), .int (bI (decide (128 ≤ c)))] (hp (fu S 151 4 (nI (p + 1))))) (fun v h' => runv 119 71 [some (.ref 151), some (.ref ec), some (.int (nI run)), some (.int (nI left)), some (.int (nI c))] (vpush v []) h') = some (some (.int 1), hp S2) ∧ RowIs S2 (ec + 1) (ec + 2) 255 us ∧ S2.1 151 4 = nI p1 ∧ p1 ≤ bs.length ∧ us.length = ts.length + left := by
            intro us p1 q1 q2 q3 q4 q5
            have hBS : RowIs S1 2 3 500 bs := hB1.fr g1 (by rintro (⟨z, -⟩ | ⟨z, -⟩) <;> omega) (by omega)
            obtain ⟨S2, k1, k2⟩ := ih (left - run) p1 us S1 (some (.int (nI run))) (some (.int (nI c))) (by omega) hBS q2 q3 q4 (by omega)
            refine ⟨S2, ((Fr.fu Q4).tr g1).tr k1, ?_⟩
            have e5 : vbind (callv 120 [.ref 151, .ref (ec + 1), .int (nI run), .int (bI (decide (128 ≤ c)))] (hp (fu S 151 4 (nI (p + 1))))) (fun v h' => runv 119 71 [some (.ref 151), some (.ref ec), some (.int (nI run)), some (.int (nI left)), some (.int (nI c))] (vpush v []) h') = runv 119 12 [some (.ref 151), some (.ref ec), some (.int (nI run)), some (.int (nI (left - run))), some (.int (nI c))] [] (hp S1) := by
              rw [q1]
              simp only [vbind_some, vpush_some, s119_71]
              rw [if_neg (show ¬ (1 : Int32) = 0 by decide)]
              simp only [s119_76, s119_77, s119_78, s119_79, s119_80, pk_sub (show run ≤ left by omega)]
            rw [e5]
            cases hm : rdRuns bs n (left - run) p1 us with
            | inl f => rw [hm] at k2; exact k2
            | inr z =>
              obtain ⟨us2, p2⟩ := z
              rw [hm] at k2
              simp only at k2 ⊢
              exact ⟨k2.1, k2.2.1, k2.2.2.1, k2.2.2.2.1, by have := k2.2.2.2.2; omega⟩
          have bad : callv 120 [.ref 151, .ref (ec + 1), .int (nI run), .int (bI (decide (128 ≤ c)))] (hp (fu S 151 4 (nI (p + 1)))) = some (some (.int 0), hp S1) → vbind (callv 120 [.ref 151, .ref (ec + 1), .int (nI run), .int (bI (decide (128 ≤ c)))] (hp (fu S 151 4 (nI (p + 1))))) (fun v h' => runv 119 71 [some (.ref 151), some (.ref ec), some (.int (nI run)), some (.int (nI left)), some (.int (nI c))] (vpush v []) h') = some (some (.int 0), hp S1) := by
            intro q1
            rw [q1]
            simp only [vbind_some, vpush_some, s119_71]
            rw [if_pos trivial, s119_74, s119_75 vb0]
          by_cases q : c < 128
          · have e : decide (128 ≤ c) = false := decide_eq_false (by omega)
            rw [if_pos q]
            rw [e] at g2
            simp only [Bool.false_eq_true, if_false] at g2
            by_cases hin : p + 1 + run ≤ bs.length
            · rw [if_pos hin] at g2 ⊢
              rw [← e] at g2
              exact go _ _ g2.1 g2.2.1 g2.2.2 hin (by rw [List.length_append, List.length_take, List.length_drop]; omega)
            · rw [if_neg hin] at g2 ⊢
              rw [← e] at g2
              exact ⟨S1, (Fr.fu Q4).tr g1, bad g2.1, g2.2⟩
          · have e : decide (128 ≤ c) = true := decide_eq_true (by omega)
            rw [if_neg q]
            rw [e] at g2
            simp only [if_true] at g2
            by_cases hin : p + 1 + 1 ≤ bs.length
            · rw [if_pos hin] at g2 ⊢
              rw [← e] at g2
              exact go _ _ g2.1 g2.2.1 g2.2.2 hin (by rw [List.length_append, List.length_replicate])
            · rw [if_neg hin] at g2 ⊢
              rw [← e] at g2
              exact ⟨S1, (Fr.fu Q4).tr g1, bad g2.1, g2.2⟩
      · rw [if_neg (show ¬ (p < bs.length ∧ 0 ≤ bs.getD p 0 ∧ bs.getD p 0 ≤ 255) from fun q => h1 q.1), if_neg h1]
        refine ⟨fu S 151 5 (nI p), Fr.fu Q5, ?_, fu_at _ _ _ _⟩
        simp only [vbind_some, vpush_some, s119_24, s119_26, s119_28]
        rw [if_neg (by decide), s119_31, s119_32 vb0]
