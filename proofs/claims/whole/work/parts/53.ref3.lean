/-! the reference: well formed, named -/
section REF3
variable {S : vSt} {i : Nat} {o : Obj}
theorem c_rwell_loop (hL : RLen S) (h : SltIs S i o) (h2k : o.1 = 2) : ∀ n p (b : Bool), o.2.length < p + 3 * n → 3 ≤ p → p % 3 = 0 → p ≤ 100 → ∃ c : Bool, (c = true ↔ b = true ∧ RisingF o.2 p) ∧ runv 35 64 [some (.ref 249), some (.int (nI i)), some (.int (nI o.2.length)), some (.int (bI b)), some (.int (nI p))] [] (hp S) = some (some (.int (bI c)), hp S) := by
  obtain ⟨h1, h2, h3, h4, h5, h6, h7, h8⟩ := h
  have e2 : (2 : Int32) = nI 2 := rfl
  have endc : ∀ p (b : Bool), o.2.length ≤ p → p ≤ 100 → ∃ c : Bool, (c = true ↔ b = true ∧ RisingF o.2 p) ∧ runv 35 64 [some (.ref 249), some (.int (nI i)), some (.int (nI o.2.length)), some (.int (bI b)), some (.int (nI p))] [] (hp S) = some (some (.int (bI c)), hp S) := by
    intro p b hlp hpl
    refine ⟨b, ⟨fun z => ⟨z, fun q hq hpq => by omega⟩, fun z => z.1⟩, ?_⟩
    rw [s35_64]
    simp only [s35_66, s35_67, s35_125, s35_126, bI_and]
    rw [if_pos (nI_le hlp (by omega))]
  intro n
  induction n with
  | zero =>
    intro p b hp0 hp3 hpm hpl
    exact endc p b (by omega) hpl
  | succ n ih =>
    intro p b hp0 hp3 hpm hpl
    by_cases hlp : o.2.length ≤ p
    · exact endc p b hlp hpl
    · have step : ∀ b2 : Bool, runv 35 118 [some (.ref 249), some (.int (nI i)), some (.int (nI o.2.length)), some (.int (bI b)), some (.int (nI p))] [.int (bI b2)] (hp S) = runv 35 64 [some (.ref 249), some (.int (nI i)), some (.int (nI o.2.length)), some (.int (bI b2)), some (.int (nI (p + 3)))] [] (hp S) := fun b2 => by
        simp only [s35_118, s35_119, s35_122, show (3 : Int32) = nI 3 from rfl, nI_add]
      have st : runv 35 64 [some (.ref 249), some (.int (nI i)), some (.int (nI o.2.length)), some (.int (bI b)), some (.int (nI p))] [] (hp S) = if b = true then runv 35 84 [some (.ref 249), some (.int (nI i)), some (.int (nI o.2.length)), some (.int (bI b)), some (.int (nI p))] [] (hp S) else runv 35 118 [some (.ref 249), some (.int (nI i)), some (.int (nI o.2.length)), some (.int (bI b)), some (.int (nI p))] [.int (bI false)] (hp S) := by
        rw [s35_64]
        simp only [s35_66, s35_67, s35_70, s35_71, s35_74, s35_75, s35_76, s35_77, s35_80, s35_81, s35_117, q3, g252 hL h1, h2, h2k, if_bI]
        rw [if_neg (nI_ge (by omega) (by omega)), if_pos (show nI 2 = 2 from rfl)]
        rfl
      rw [st]
      cases b with
      | false =>
        obtain ⟨c, c1, c2⟩ := ih (p + 3) false (by omega) (by omega) (by omega) (by omega)
        refine ⟨c, ⟨fun z => ?_, fun z => ?_⟩, ?_⟩
        · have := (c1.mp z).1; cases this
        · have := z.1; cases this
        · rw [if_neg (by decide)]
          exact (step false).trans c2
      | true =>
        have e1 := getD_lt h6 p
        have e3 := getD_lt h6 (p - 3)
        have x1 := h4 p (by omega)
        have x2 := h4 (p - 3) (by omega)
        obtain ⟨c, c1, c2⟩ := ih (p + 3) (decide (o.2.getD (p - 3) 0 < o.2.getD p 0)) (by omega) (by omega) (by omega) (by omega)
        refine ⟨c, ?_, ?_⟩
        · rw [c1, decide_eq_true_eq]
          constructor
          · rintro ⟨z1, z2⟩
            refine ⟨rfl, fun q hq hpq hm => ?_⟩
            by_cases w : q = p
            · subst w; exact z1
            · exact z2 q hq (by omega) hm
          · rintro ⟨-, z2⟩
            exact ⟨z2 p (by omega) (by omega) hpm, fun q hq hpq hm => z2 q hq (by omega) hm⟩
        · rw [if_pos rfl]
          have hsub : nI (24 * i + p) - 3 = nI (24 * i + (p - 3)) := by
            rw [show (3 : Int32) = nI 3 from rfl, pk_sub (by omega), show 24 * i + p - 3 = 24 * i + (p - 3) by omega]
          simp only [s35_84, s35_85, s35_88, s35_90, s35_91, s35_92, s35_94, s35_95, s35_96, s35_97, s35_100, s35_102, s35_103, s35_104, s35_106, s35_107, s35_108, s35_109, s35_110, s35_113, s35_114, q5, x24, nI_add, hsub, g254 hL (show 24 * i + p < 1368 by omega), g254 hL (show 24 * i + (p - 3) < 1368 by omega), x1, x2]
          by_cases w : o.2.getD (p - 3) 0 < o.2.getD p 0
          · rw [decide_eq_true w] at c2
            rw [if_neg (nI_ge w (by omega))]
            exact (step true).trans c2
          · rw [decide_eq_false w] at c2
            rw [if_pos (nI_le (by omega) (by omega))]
            simp only [s35_117]
            exact (step false).trans c2
theorem c_rwell (hL : RLen S) (h : SltIs S i o) : ∃ b : Bool, (b = true ↔ wfO o.1 o.2) ∧ callv 35 [.ref 249, .int (nI i)] (hp S) = some (some (.int (bI b)), hp S) := by
  have h0 := h
  obtain ⟨h1, h2, h3, h4, h5, h6, h7, h8⟩ := h
  have e0 : ¬ (3 : Int32) = 0 := by decide
  have k1 : (nI o.1 = 1) = (o.1 = 1) := nI_inj (b := 1) (by omega) (by omega)
  have k3 : (nI o.1 = 3) = (o.1 = 3) := nI_inj (b := 3) (by omega) (by omega)
  have m3 : nI o.2.length - nI o.2.length / 3 * 3 = nI (o.2.length % 3) := pk_rem (d := 3) (by omega) (by omega) (by omega)
  have st : callv 35 [.ref 249, .int (nI i)] (hp S) = if o.1 = 1 then runv 35 17 [some (.ref 249), some (.int (nI i)), some (.int (nI o.2.length)), none, none] [] (hp S) else if o.1 = 3 then runv 35 64 [some (.ref 249), some (.int (nI i)), some (.int (nI o.2.length)), some (.int 1), some (.int 3)] [] (hp S) else if nI (o.2.length % 3) = 0 then runv 35 64 [some (.ref 249), some (.int (nI i)), some (.int (nI o.2.length)), some (.int 1), some (.int 3)] [] (hp S) else runv 35 64 [some (.ref 249), some (.int (nI i)), some (.int (nI o.2.length)), some (.int 0), some (.int 3)] [] (hp S) := by
    show runv 35 0 [some (.ref 249), some (.int (nI i)), none, none, none] [] (hp S) = _
    simp only [s35_0, s35_1, s35_4, s35_5, s35_6, s35_7, s35_8, s35_11, s35_12, s35_13, s35_14, s35_39, s35_40, s35_43, s35_44, s35_45, s35_46, s35_49, s35_50, s35_51, s35_52, s35_55, s35_56, s35_59, s35_60, s35_61, s35_62, q3, q4, g252 hL h1, g253 hL h1, h2, h3, k1, k3, e0, not_false_eq_true, m3]
  rw [st]
  by_cases c1 : o.1 = 1
  · rw [if_pos c1]
    have l3 : (nI o.2.length = 3) = (o.2.length = 3) := nI_inj (b := 3) (by omega) (by omega)
    have l5 : (nI o.2.length = 5) = (o.2.length = 5) := nI_inj (b := 5) (by omega) (by omega)
    have l7 : (nI o.2.length = 7) = (o.2.length = 7) := nI_inj (b := 7) (by omega) (by omega)
    simp only [s35_17, s35_18, s35_19, s35_22, s35_23, s35_24, s35_27, s35_28, s35_30, s35_33, s35_34, s35_37, s35_38, l3, l5, l7, vb0, vb1]
    by_cases d3 : o.2.length = 3
    · rw [if_pos d3]
      exact ⟨true, by simp [wfO, c1, d3], rfl⟩
    · rw [if_neg d3]
      by_cases d5 : o.2.length = 5
      · rw [if_pos d5]
        exact ⟨true, by simp [wfO, c1, d5], rfl⟩
      · rw [if_neg d5]
        by_cases d7 : o.2.length = 7
        · rw [if_pos d7]
          exact ⟨true, by simp [wfO, c1, d7], rfl⟩
        · rw [if_neg d7]
          exact ⟨false, by simp [wfO, c1, d3, d5, d7], rfl⟩
  · rw [if_neg c1]
    by_cases c3 : o.1 = 3
    · rw [if_pos c3]
      refine ⟨true, by simp [wfO, c3], ?_⟩
      rw [s35_64]
      simp only [s35_66, s35_67, s35_70, s35_71, s35_74, s35_75, s35_76, s35_77, s35_125, s35_126, q3, g252 hL h1, h2, c3, vb1]
      rw [if_neg (show ¬ nI 3 = 2 by decide)]
      split <;> rfl
    · rw [if_neg c3]
      have c2 : o.1 = 2 := by omega
      have z3 : (nI (o.2.length % 3) = 0) = (o.2.length % 3 = 0) := nI_inj (b := 0) (by omega) (by omega)
      by_cases d : o.2.length % 3 = 0
      · rw [if_pos (show nI (o.2.length % 3) = 0 by rw [z3]; exact d)]
        obtain ⟨c, g1, g2⟩ := c_rwell_loop hL h0 c2 10 3 true (by omega) (by omega) (by omega) (by omega)
        refine ⟨c, ?_, g2⟩
        rw [g1]
        simp [wfO, c2, d]
      · rw [if_neg (show ¬ nI (o.2.length % 3) = 0 by rw [z3]; exact d)]
        obtain ⟨c, g1, g2⟩ := c_rwell_loop hL h0 c2 10 3 false (by omega) (by omega) (by omega) (by omega)
        refine ⟨c, ?_, g2⟩
        rw [g1]
        simp [wfO, c2, d]
theorem c_rnames (hL : RLen S) (h : SltIs S i o) (hw : wfO o.1 o.2) : callv 36 [.ref 249, .int (nI i)] (hp S) = some (some (.int (nI (nmN o.1 o.2.length))), hp S) := by
  obtain ⟨h1, h2, h3, h4, h5, h6, h7, h8⟩ := h
  have k1 : (nI o.1 = 1) = (o.1 = 1) := nI_inj (b := 1) (by omega) (by omega)
  have k2 : (nI o.1 = 2) = (o.1 = 2) := nI_inj (b := 2) (by omega) (by omega)
  have e0 : ¬ (3 : Int32) = 0 := by decide
  have e2 : ¬ (2 : Int32) = 0 := by decide
  have d3 : nI o.2.length / 3 = nI (o.2.length / 3) := pk_div (d := 3) (by omega) (by omega) (by omega)
  have d2 : nI o.2.length / 2 = nI (o.2.length / 2) := pk_div (d := 2) (by omega) (by omega) (by omega)
  show runv 36 0 [some (.ref 249), some (.int (nI i))] [] (hp S) = _
  simp only [s36_0, s36_1, s36_4, s36_5, s36_6, s36_7, s36_10, s36_11, s36_14, s36_15, s36_16, s36_17, s36_18, s36_21, s36_22, s36_25, s36_26, s36_27, s36_28, s36_31, s36_32, s36_35, s36_36, s36_37, s36_38, s36_39, s36_42, s36_43, q3, q4, g252 hL h1, g253 hL h1, h2, h3, k1, k2, e0, e2, not_false_eq_true, d2, d3]
  unfold nmN
  by_cases c1 : o.1 = 1
  · rw [if_pos c1, if_pos c1]
    have := hw.1 c1
    rw [show (o.2.length - 1) / 2 = o.2.length / 2 by omega]
  · rw [if_neg c1, if_neg c1]
    by_cases c2 : o.1 = 2
    · rw [if_pos c2, if_pos c2]
    · rw [if_neg c2, if_neg c2]
      rfl
theorem c_rnamed {s j : Nat} {l : List Obj} (hL : RLen S) (h : SltIs S i o) (hS : SideIs S s l) (hu : Uniq l) (hj : j < nmN o.1 o.2.length) : callv 37 [.ref 249, .int (nI s), .int (nI i), .int (nI j)] (hp S) = some (some (.int (oJ (st0 s) (nmd l o j))), hp S) := by
  obtain ⟨h1, h2, h3, h4, h5, h6, h7, h8⟩ := h
  have tq := qt (S := S)
  have k1 : (nI o.1 = 1) = (o.1 = 1) := nI_inj (b := 1) (by omega) (by omega)
  have k2 : (nI o.1 = 2) = (o.1 = 2) := nI_inj (b := 2) (by omega) (by omega)
  have hp0 : nmP o.1 j + 1 < o.2.length ∧ j < 100 := by
    rcases nm_in hj with q | q
    · exact q
    · omega
  have hc : cap0 s ≤ 24 ∧ st0 s ≤ 16 := by unfold cap0 st0; split <;> omega
  have hle := hS.2.2.1
  have x1 := h4 (nmP o.1 j) (by omega)
  have x2 := h4 (nmP o.1 j + 1) (by omega)
  have y1 := getD_lt h6 (nmP o.1 j)
  have y2 := getD_lt h6 (nmP o.1 j + 1)
  have hid : (256 : Int32) * nI (o.2.getD (nmP o.1 j) 0) + nI (o.2.getD (nmP o.1 j + 1) 0) = nI (nmId o.1 o.2 j) := by
    rw [show (256 : Int32) = nI 256 from rfl, pk_mul, nI_add]
    unfold nmId
    rw [Nat.mul_comm]
  have st : callv 37 [.ref 249, .int (nI s), .int (nI i), .int (nI j)] (hp S) = runv 37 54 [some (.ref 249), some (.int (nI s)), some (.int (nI i)), some (.int (nI j)), some (.int (nI (24 * i + nmP o.1 j))), none, none] [.int (oJ (st0 s) (fIdx l (nI (nmId o.1 o.2 j))))] (hp S) := by
    show runv 37 0 [some (.ref 249), some (.int (nI s)), some (.int (nI i)), some (.int (nI j)), none, none, none] [] (hp S) = _
    have e : runv 37 0 [some (.ref 249), some (.int (nI s)), some (.int (nI i)), some (.int (nI j)), none, none, none] [] (hp S) = runv 37 28 [some (.ref 249), some (.int (nI s)), some (.int (nI i)), some (.int (nI j)), some (.int (nI (24 * i + nmP o.1 j))), none, none] [] (hp S) := by
      simp only [s37_0, s37_2, s37_3, s37_4, s37_5, s37_8, s37_9, s37_10, s37_11, s37_14, s37_15, s37_16, s37_17, s37_20, s37_21, s37_22, s37_23, s37_24, s37_25, s37_26, q3, g252 hL h1, h2, k1, x24]
      unfold nmP
      by_cases c1 : o.1 = 1
      · rw [if_pos c1, if_pos c1, show (2 : Int32) = nI 2 from rfl, pk_mul, nI_add]
      · rw [if_neg c1, if_neg c1, show (3 : Int32) = nI 3 from rfl, show (1 : Int32) = nI 1 from rfl, pk_mul, nI_add, nI_add]
    rw [e]
    simp only [s37_28, s37_29, s37_30, s37_33, s37_34, s37_37, s37_39, s37_40, s37_41, s37_42, s37_45, s37_47, s37_48, s37_49, s37_50, s37_51, q5, nI_1, g254 hL (show 24 * i + nmP o.1 j < 1368 by omega), g254 hL (show 24 * i + (nmP o.1 j + 1) < 1368 by omega), x1, show 24 * i + nmP o.1 j + 1 = 24 * i + (nmP o.1 j + 1) by omega, x2, hid, List.length_cons, List.length_nil, Nat.reduceAdd, Nat.reduceLeDiff, Nat.zero_le, tq, c_rfind hL hS hu, vbind_some, vpush_some]
  rw [st]
  have ko : o.1 ≠ 3 := by
    intro q
    rw [q] at hj
    simp [nmN] at hj
  unfold nmd
  cases hf : fIdx l (nI (nmId o.1 o.2 j)) with
  | none =>
    simp only [s37_54, s37_56, s37_58, oJ]
    rw [if_pos (show (-1 : Int32) < 0 by decide)]
    simp only [s37_118, s37_119, s37_121, s37_123, s37_126, s37_128, s37_131, s37_132]
    rw [if_pos trivial]
  | some q =>
    have hq := fIdx_lt hf
    have hsl := hS.2.2.2 q _ (List.getElem?_eq_getElem hq)
    have hg : l.getD q (0, []) = l[q] := by rw [List.getD_eq_getElem?_getD, List.getElem?_eq_getElem hq]; rfl
    obtain ⟨v1, v2, v3, v4, v5, v6, v7, v8⟩ := hsl
    simp only [hg]
    have fin1 : ∀ w5, runv 37 114 [some (.ref 249), some (.int (nI s)), some (.int (nI i)), some (.int (nI j)), w5, some (.int (nI (st0 s + q))), none] [] (hp S) = some (some (.int (nI (st0 s + q))), hp S) := fun w5 => by
      simp only [s37_114, s37_115, s37_118, s37_119, s37_121, s37_123, s37_126, s37_128, s37_131, s37_132]
      rw [if_neg (show ¬ (1 : Int32) = 0 by decide)]
    have fin0 : ∀ w5, runv 37 118 [some (.ref 249), some (.int (nI s)), some (.int (nI i)), some (.int (nI j)), w5, some (.int (nI (st0 s + q))), none] [] (hp S) = some (some (.int (-1)), hp S) := fun w5 => by
      simp only [s37_118, s37_119, s37_121, s37_123, s37_126, s37_128, s37_131, s37_132]
      rw [if_pos trivial]
    have a1 : (nI l[q].1 = 1) = (l[q].1 = 1) := nI_inj (b := 1) (by omega) (by omega)
    have a2 : (nI l[q].1 = 2) = (l[q].1 = 2) := nI_inj (b := 2) (by omega) (by omega)
    have j0 : (nI j = 0) = (j = 0) := nI_inj (b := 0) (by omega) (by omega)
    simp only [s37_54, s37_56, s37_58, s37_61, s37_62, s37_65, s37_66, s37_67, s37_68, s37_71, s37_72, s37_75, s37_77, s37_78, s37_79, s37_82, s37_85, s37_86, s37_89, s37_90, s37_93, s37_95, s37_96, s37_97, s37_100, s37_103, s37_104, s37_107, s37_109, s37_110, s37_111, oJ, q3, g252 hL h1, g252 hL v1, h2, v2, k2, a1, a2, j0, fin0, fin1]
    rw [if_neg (nI_pos (by omega))]
    unfold mayN
    by_cases c2 : o.1 = 2
    · rw [if_pos c2, if_neg (show ¬ o.1 = 1 by omega)]
      by_cases d : l[q].1 ≤ 1
      · rw [if_pos (show nI l[q].1 ≤ 1 from nI_le (b := 1) d (by omega)), if_neg (by simp; omega)]
      · rw [if_neg (show ¬ nI l[q].1 ≤ 1 from nI_ge (a := 1) (by omega) (by omega)), if_pos (by simp; omega)]
    · have c1 : o.1 = 1 := by omega
      rw [if_neg c2, if_pos c1]
      by_cases d : j = 0
      · rw [if_pos d, if_pos d]
        by_cases e : l[q].1 = 2
        · rw [if_pos e, if_pos (decide_eq_true e)]
        · rw [if_neg e, if_neg (by simp [e])]
      · rw [if_neg d, if_neg d]
        by_cases e : l[q].1 = 1
        · rw [if_pos e, if_pos (decide_eq_true e)]
        · rw [if_neg e, if_neg (by simp [e])]
end REF3
