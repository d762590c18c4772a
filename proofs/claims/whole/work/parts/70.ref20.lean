/-! the reference: an entry written -/
def WFr (S S1 : vSt) : Prop := (∀ b j, ¬ (b = 249 ∧ (j = 1 ∨ j = 16)) → S1.1 b j = S.1 b j) ∧ (∀ b, b ≠ 250 → b ≠ 261 → S1.2 b = S.2 b) ∧ ∀ b, (S1.2 b).length = (S.2 b).length
section WFR
variable {S S1 S2 : vSt}
theorem WFr.rf : WFr S S := ⟨fun _ _ _ => rfl, fun _ _ _ => rfl, fun _ => rfl⟩
theorem WFr.tr (h : WFr S S1) (g : WFr S1 S2) : WFr S S2 := ⟨fun b j q => (g.1 b j q).trans (h.1 b j q), fun b q r => (g.2.1 b q r).trans (h.2.1 b q r), fun b => (g.2.2 b).trans (h.2.2 b)⟩
theorem Ch.wb (h : Ch 1 250 S S1) : WFr S S1 := ⟨fun b j q => h.1 b j (fun z => q ⟨z.1, Or.inl z.2⟩), fun b q _ => h.2.1 b q, fun b => by
  by_cases q : b = 250
  · subst q; exact h.2.2
  · rw [h.2.1 b q]⟩
theorem Ch.wr (h : Ch 16 261 S S1) : WFr S S1 := ⟨fun b j q => h.1 b j (fun z => q ⟨z.1, Or.inr z.2⟩), fun b _ q => h.2.1 b q, fun b => by
  by_cases q : b = 261
  · subst q; exact h.2.2
  · rw [h.2.1 b q]⟩
theorem WFr.len (h : WFr S S1) (hL : RLen S) : RLen S1 := hL.of h.2.2
theorem WFr.slt (h : WFr S S1) {i : Nat} {o : Obj} (hS : SltIs S i o) : SltIs S1 i o := hS.of (h.2.1 _ (by omega) (by omega)) (h.2.1 _ (by omega) (by omega)) (h.2.1 _ (by omega) (by omega))
theorem WFr.side (h : WFr S S1) {s : Nat} {l : List Obj} (hS : SideIs S s l) : SideIs S1 s l := hS.of (h.2.1 _ (by omega) (by omega)) (h.2.1 _ (by omega) (by omega)) (h.2.1 _ (by omega) (by omega)) (h.2.1 _ (by omega) (by omega))
theorem WFr.seq (h : WFr S S1) {k2 a2 N : Nat} {bs : List Nat} (h1 : k2 ≠ 1 ∧ k2 ≠ 16) (h2 : a2 ≠ 250 ∧ a2 ≠ 261) (hS : SqIs S k2 a2 N bs) : SqIs S1 k2 a2 N bs := ⟨by rw [h.1 _ _ (by omega)]; exact hS.1, by rw [h.2.1 _ h2.1 h2.2]; exact hS.2.1, by rw [h.2.1 _ h2.1 h2.2]; exact hS.2.2.1, hS.2.2.2⟩
end WFR
def HdIs (S : vSt) (hd : List Nat) : Prop := (S.2 260).length = 16 ∧ (S.2 260).take hd.length = hd.map nI ∧ hd.length ≤ 16
theorem HdIs.get {S : vSt} {i : Nat} {hd : List Nat} (h : HdIs S hd) (hi : i < hd.length) : (S.2 260).getD i 0 = nI (hd.getD i 0) := by
  have e : ((S.2 260).take hd.length)[i]? = (hd.map nI)[i]? := by rw [h.2.1]
  rw [List.getElem?_take_of_lt hi, List.getElem?_map, List.getElem?_eq_getElem hi] at e
  rw [List.getD_eq_getElem?_getD, e, List.getD_eq_getElem?_getD, List.getElem?_eq_getElem hi]
  rfl
section REF20
variable {os : List Obj} {pk hd ob : List Nat}
def SrvIs (S : vSt) (os : List Obj) (pk hd ob : List Nat) : Prop := RLen S ∧ SideIs S 0 os ∧ SqIs S 13 259 16 pk ∧ (∀ p ∈ pk, p < os.length) ∧ HdIs S hd ∧ SqIs S 1 250 640 ob
theorem c_ehead {S : vSt} {D ob : List Nat} {s : Nat} {v1 v2 v3 v4 : Option Value} (hs : s < 8) (hR : SqIs S 16 261 256 D) (hT : SqIs S 1 250 640 ob) (hl : ob.length + 2 ≤ 640) : runv 51 89 [some (.ref 249), v1, v2, v3, v4, some (.int (nI s))] [] (hp S) = runv 51 143 [some (.ref 249), v1, v2, v3, v4, some (.int (nI s))] [] (hp (sqSet S 1 250 (ob ++ headL s D.length))) := by
  have tq := qt (S := S)
  have hD := hR.2.2.2
  have e0 : ¬ (16 : Int32) = 0 := by decide
  have m1 : (16 : Int32) * nI s = nI (16 * s) := pk_mul 16 s
  have m2 : nI D.length - nI D.length / 16 * 16 = nI (D.length % 16) := pk_rem (d := 16) (by omega) (by omega) (by omega)
  have m3 : nI D.length / 16 = nI (D.length / 16) := pk_div (d := 16) (by omega) (by omega) (by omega)
  unfold headL
  by_cases h1 : D.length ≤ 15
  · have c1 := c_wr1 (x := 16 * s + D.length % 16) hT (by omega)
    have n1 : nI D.length ≤ 15 := nI_le (b := 15) h1 (by omega)
    have z0 : ∀ x : Nat, nI x + 0 = nI x := fun x => nI_add x 0
    have g16 : (sqSet S 1 250 (ob ++ [16 * s + D.length % 16])).1 249 16 = nI D.length := by rw [sq_1 (by omega)]; exact hR.1
    rw [if_pos (show D.length / 16 = 0 by omega)]
    simp only [s51_89, s51_90, s51_92, s51_94, s51_95, s51_96, s51_99, s51_101, s51_102, s51_103, s51_104, s51_107, s51_109, s51_112, s51_115, s51_118, s51_119, s51_120, s51_123, s51_124, s51_127, s51_129, q16, hR.1, e0, not_false_eq_true, m1, m2, nI_add, if_pos n1, z0, List.length_cons, List.length_nil, Nat.reduceAdd, Nat.reduceLeDiff, Nat.zero_le, tq, c1, vbind_some, vpush_none, g16]
  · have c1 := c_wr1 (x := 16 * s + D.length % 16 + 128) hT (by omega)
    have T1 := hT.set (cs := ob ++ [16 * s + D.length % 16 + 128]) (by rw [List.length_append, List.length_singleton]; omega)
    have c2 := c_wr1 (x := D.length / 16) T1 (by rw [List.length_append, List.length_singleton]; omega)
    have n1 : ¬ nI D.length ≤ 15 := nI_ge (a := 15) (by omega) (by omega)
    have z0 : ∀ x : Nat, nI x + 128 = nI (x + 128) := fun x => nI_add x 128
    have tq1 := qt (S := sqSet S 1 250 (ob ++ [16 * s + D.length % 16 + 128]))
    have g16 : (sqSet S 1 250 (ob ++ [16 * s + D.length % 16 + 128])).1 249 16 = nI D.length := by rw [sq_1 (by omega)]; exact hR.1
    have m2' : nI D.length - nI (D.length / 16) * 16 = nI (D.length % 16) := by rw [← m3]; exact m2
    rw [if_neg (show ¬ D.length / 16 = 0 by omega)]
    simp only [s51_89, s51_90, s51_92, s51_94, s51_95, s51_96, s51_99, s51_101, s51_102, s51_103, s51_104, s51_107, s51_109, s51_112, s51_115, s51_118, s51_119, s51_120, s51_123, s51_124, s51_127, s51_129, s51_132, s51_133, s51_134, s51_137, s51_139, s51_140, q16, hR.1, e0, not_false_eq_true, m1, m2', m3, nI_add, if_neg n1, z0, List.length_cons, List.length_nil, Nat.reduceAdd, Nat.reduceLeDiff, Nat.zero_le, tq, tq1, c1, c2, vbind_some, vpush_none, g16]
    rw [sq_grow (by simp)]
    simp only [List.append_assoc]
    rfl
theorem c_erow_loop {io ko : Nat} {C : List Nat} {v1 v2 v4 : Option Value} : ∀ n k S, k + n = C.length → RLen S → SltIs S io (ko, C) → SqIs S 16 261 256 (C.take k) → ∃ S1 v5, runv 51 39 [some (.ref 249), v1, v2, some (.int (nI io)), v4, some (.int (nI k))] [] (hp S) = runv 51 72 [some (.ref 249), v1, v2, some (.int (nI io)), v4, v5] [] (hp S1) ∧ SqIs S1 16 261 256 C ∧ Ch 16 261 S S1 := by
  intro n
  induction n with
  | zero =>
    intro k S hk hL ho hR
    have o3 : (S.2 253).getD io 0 = nI C.length := ho.2.2.1
    have o5 : C.length ≤ 24 := ho.2.2.2.2.1
    rw [List.take_of_length_le (by omega)] at hR
    refine ⟨S, some (.int (nI k)), ?_, hR, Ch.rf⟩
    rw [s51_39]
    simp only [s51_41, s51_42, s51_45, s51_46, s51_47, q4, g253 hL ho.1, o3]
    rw [if_pos (nI_le (by omega) (by omega))]
  | succ n ih =>
    intro k S hk hL ho hR
    have o1 := ho.1
    have o3 : (S.2 253).getD io 0 = nI C.length := ho.2.2.1
    have o4 := ho.2.2.2.1 k (show k < C.length by omega)
    simp only at o4
    have o5 : C.length ≤ 24 := ho.2.2.2.2.1
    have tq := qt (S := S)
    have lk : (C.take k).length = k := by rw [List.length_take]; omega
    have c1 := c_addRow (x := C.getD k 0) hR (by omega)
    have R1 := hR.set (cs := C.take k ++ [C.getD k 0]) (by rw [List.length_append, lk, List.length_singleton]; omega)
    have F1 : Ch 16 261 S _ := Ch.sq (S := S) (k := 16) (a := 261) (bs := C.take k ++ [C.getD k 0]) (by rw [hR.2.1, List.length_append, lk, List.length_singleton]; omega)
    have e : C.take k ++ [C.getD k 0] = C.take (k + 1) := by
      rw [List.take_succ, List.getElem?_eq_getElem (show k < C.length by omega), List.getD_eq_getElem?_getD, List.getElem?_eq_getElem (show k < C.length by omega)]
      rfl
    rw [e] at c1 R1 F1
    obtain ⟨S1, v5, g1, g2, g3⟩ := ih (k + 1) _ (by omega) (F1.len hL) (F1.slt (by omega) ho) R1
    refine ⟨S1, v5, ?_, g2, F1.tr g3⟩
    rw [← g1, s51_39]
    simp only [s51_41, s51_42, s51_45, s51_46, s51_47, s51_50, s51_51, s51_52, s51_55, s51_57, s51_58, s51_59, s51_61, s51_62, s51_63, s51_66, s51_69, q4, q5, g253 hL o1, o3, x24, nI_add, g254 hL (show 24 * io + k < 1368 by omega), o4, List.length_cons, List.length_nil, Nat.reduceAdd, Nat.reduceLeDiff, Nat.zero_le, tq, c1, vbind_some, vpush_none, nI_1]
    rw [if_neg (nI_ge (by omega) (by omega))]
theorem pk_at {pk : List Nat} {i : Nat} (hi : i < pk.length) : pk.getD i 0 ∈ pk := by
  rw [List.getD_eq_getElem?_getD, List.getElem?_eq_getElem hi]
  exact List.getElem_mem hi
theorem c_eWhole {S : vSt} {i : Nat} (h : SrvIs S os pk hd ob) (hi : i < pk.length) (hob : ob.length + 32 ≤ 640) : ∃ S1, callv 51 [.ref 249, .int (nI i), .int (-1)] (hp S) = some (none, hp S1) ∧ SqIs S1 1 250 640 (ob ++ wholeE (oAt os (pk.getD i 0))) ∧ WFr S S1 := by
  obtain ⟨hL, hS, hP, hpk, hH, hT⟩ := h
  have hp0 := hpk _ (pk_at hi)
  have hsl := hS.at hp0
  have h16 := hP.2.2.2
  have hc := hS.2.2.1
  have hc0 : cap0 0 = 16 := rfl
  have k8 := hsl.2.2.2.2.2.2.2
  have b5 := hsl.2.2.2.2.1
  have b6 := hsl.2.2.2.2.2.1
  have h261 : (S.2 261).length = 256 := hL.2.2.2.2.2.2.2.2.2.2.2.1
  have R0 : SqIs (fu S 249 16 (nI 0)) 16 261 256 ((oAt os (pk.getD i 0)).2.take 0) := by
    rw [List.take_zero]
    exact ⟨fu_at _ _ _ _, h261, rfl, by simp⟩
  have F0 : Ch 16 261 S (fu S 249 16 (nI 0)) := Ch.fu
  obtain ⟨S1, v5, g1, g2, g3⟩ := c_erow_loop (io := pk.getD i 0) (ko := (oAt os (pk.getD i 0)).1) (C := (oAt os (pk.getD i 0)).2) (v1 := some (.int (nI i))) (v2 := some (.int (-1))) (v4 := some (.int (nI ob.length))) (oAt os (pk.getD i 0)).2.length 0 _ (by omega) (F0.len hL) (F0.slt (by omega) hsl) R0
  have F1 := F0.tr g3
  have T1 := F1.seq (by omega) (by omega) hT
  have hsl1 := F1.slt (by omega) hsl
  have hh := headL_len (oAt os (pk.getD i 0)).1 (oAt os (pk.getD i 0)).2.length
  have hpl := packL_len (bs := (oAt os (pk.getD i 0)).2) (by omega)
  have c1 := c_ehead (v1 := some (.int (nI i))) (v2 := some (.int (-1))) (v3 := some (.int (nI (pk.getD i 0)))) (v4 := some (.int (nI ob.length))) (s := (oAt os (pk.getD i 0)).1) (by omega) g2 T1 (by omega)
  have T2 := T1.set (cs := ob ++ headL (oAt os (pk.getD i 0)).1 (oAt os (pk.getD i 0)).2.length) (by rw [List.length_append]; omega)
  have R2 := g2.other (N2 := 640) (k2 := 1) (a2 := 250) (ds := ob ++ headL (oAt os (pk.getD i 0)).1 (oAt os (pk.getD i 0)).2.length) (by omega) (by omega)
  have c2 := c_writePacked R2 b6 T2 (by rw [List.length_append]; omega)
  have T3 := T2.set (cs := ob ++ headL (oAt os (pk.getD i 0)).1 (oAt os (pk.getD i 0)).2.length ++ packL (oAt os (pk.getD i 0)).2) (by simp only [List.length_append]; omega)
  have F2 : WFr S1 _ := (Ch.sq (S := S1) (k := 1) (a := 250) (bs := ob ++ headL (oAt os (pk.getD i 0)).1 (oAt os (pk.getD i 0)).2.length) (by rw [T1.2.1]; simp only [List.length_append]; omega)).wb
  have F3 := F2.tr (Ch.sq (k := 1) (a := 250) (bs := ob ++ headL (oAt os (pk.getD i 0)).1 (oAt os (pk.getD i 0)).2.length ++ packL (oAt os (pk.getD i 0)).2) (by rw [T2.2.1]; simp only [List.length_append]; omega)).wb
  refine ⟨_, ?_, ?_, F1.wr.tr F3⟩
  · have e16 : ∀ (K2 : vH → Option (Option Value × vH)), vpf (hp S) 249 9 16 (.int 0) K2 = K2 (hp (fu S 249 16 (nI 0))) := fun K2 => q16p
    have tq2 := qt (S := sqSet S1 1 250 (ob ++ headL (oAt os (pk.getD i 0)).1 (oAt os (pk.getD i 0)).2.length))
    have e0 : (nI 0 : Int32) = 0 := rfl
    rw [e0] at g1
    show runv 51 0 [some (.ref 249), some (.int (nI i)), some (.int (-1)), none, none, none] [] (hp S) = _
    simp only [s51_0, s51_1, s51_4, s51_5, s51_6, s51_7, s51_8, s51_11, s51_13, s51_14, s51_17, s51_18, s51_19, s51_20, s51_23, s51_24, s51_25, s51_28, s51_31, s51_32, s51_33, s51_36, s51_37, q14, q1, hT.1, ga rfl hP.2.1 (show i < 16 by omega) (by omega), hP.get hi, e16]
    rw [if_pos (show (-1 : Int32) < 0 by decide), e0, g1]
    simp only [s51_72, s51_73, s51_76, s51_78, s51_81, s51_82, s51_85, s51_86, s51_87, q3, g252 (F1.len hL) hsl1.1, hsl1.2.1]
    rw [if_pos (show (-1 : Int32) < 0 by decide), c1]
    simp only [s51_143, s51_144, s51_181, s51_182, s51_185, List.length_cons, List.length_nil, Nat.reduceAdd, Nat.reduceLeDiff, Nat.zero_le, tq2, c2, vbind_some, vpush_none]
    rw [if_pos (show (-1 : Int32) < 0 by decide)]
  · unfold wholeE
    rw [← List.append_assoc]
    exact T3
theorem c_eBack {S : vSt} {i b : Nat} (h : SrvIs S os pk hd ob) (hi : i < pk.length) (hb : b < hd.length) (hbp : b < pk.length) (hhd : hd.getD b 0 ≤ ob.length) (hob : ob.length + 40 ≤ 640) : ∃ S1, callv 51 [.ref 249, .int (nI i), .int (nI b)] (hp S) = some (none, hp S1) ∧ SqIs S1 1 250 640 (ob ++ backE (oAt os (pk.getD b 0)).2 (oAt os (pk.getD i 0)).2 (ob.length - hd.getD b 0)) ∧ WFr S S1 := by
  obtain ⟨hL, hS, hP, hpk, hH, hT⟩ := h
  have hp0 := hpk _ (pk_at hi)
  have hsl := hS.at hp0
  have hslb := hS.at (hpk _ (pk_at hbp))
  have h16 := hP.2.2.2
  have hc := hS.2.2.1
  have hc0 : cap0 0 = 16 := rfl
  have b5 := hsl.2.2.2.2.1
  have b6 := hsl.2.2.2.2.2.1
  have bb5 := hslb.2.2.2.2.1
  obtain ⟨S1, g1, g2, g3⟩ := c_difference (ko := (oAt os (pk.getD i 0)).1) (C := (oAt os (pk.getD i 0)).2) (kb := (oAt os (pk.getD b 0)).1) (B := (oAt os (pk.getD b 0)).2) hL hsl hslb
  have T1 := g3.seq (by omega) (by omega) hT
  have hdl := diffL_len (oAt os (pk.getD b 0)).2 (oAt os (pk.getD i 0)).2
  have hdb := diffL_b (B := (oAt os (pk.getD b 0)).2) (C := (oAt os (pk.getD i 0)).2) bb5 b5 b6
  generalize hDD : diffL (oAt os (pk.getD b 0)).2 (oAt os (pk.getD i 0)).2 = D at g2 hdl hdb
  have hh := headL_len 6 D.length
  have hpl := packL_len (bs := D) (by omega)
  have c1 := c_ehead (v1 := some (.int (nI i))) (v2 := some (.int (nI b))) (v3 := some (.int (nI (pk.getD i 0)))) (v4 := some (.int (nI ob.length))) (s := 6) (by omega) g2 T1 (by omega)
  have T2 := T1.set (cs := ob ++ headL 6 D.length) (by rw [List.length_append]; omega)
  have R2 := g2.other (N2 := 640) (k2 := 1) (a2 := 250) (ds := ob ++ headL 6 D.length) (by omega) (by omega)
  have F2 : WFr S1 _ := (Ch.sq (S := S1) (k := 1) (a := 250) (bs := ob ++ headL 6 D.length) (by rw [T1.2.1]; simp only [List.length_append]; omega)).wb
  have hH2 : ((sqSet S1 1 250 (ob ++ headL 6 D.length)).2 260).getD b 0 = nI (hd.getD b 0) := by rw [sq_2 (by omega), g3.2.1 _ (by omega)]; exact hH.get hb
  have l260 : ((sqSet S1 1 250 (ob ++ headL 6 D.length)).2 260).length = 16 := by rw [sq_2 (by omega), g3.2.1 _ (by omega)]; exact hH.1
  have c2 := c_wr1 (x := (ob.length - hd.getD b 0) / 256) T2 (by rw [List.length_append]; omega)
  have T3 := T2.set (cs := ob ++ headL 6 D.length ++ [(ob.length - hd.getD b 0) / 256]) (by simp only [List.length_append, List.length_singleton]; omega)
  have R3 := R2.other (N2 := 640) (k2 := 1) (a2 := 250) (ds := ob ++ headL 6 D.length ++ [(ob.length - hd.getD b 0) / 256]) (by omega) (by omega)
  have F3 := F2.tr (Ch.sq (k := 1) (a := 250) (bs := ob ++ headL 6 D.length ++ [(ob.length - hd.getD b 0) / 256]) (by rw [T2.2.1]; simp only [List.length_append, List.length_singleton]; omega)).wb
  have hH3 : ((sqSet (sqSet S1 1 250 (ob ++ headL 6 D.length)) 1 250 (ob ++ headL 6 D.length ++ [(ob.length - hd.getD b 0) / 256])).2 260).getD b 0 = nI (hd.getD b 0) := by rw [sq_2 (by omega)]; exact hH2
  have l261 : ((sqSet (sqSet S1 1 250 (ob ++ headL 6 D.length)) 1 250 (ob ++ headL 6 D.length ++ [(ob.length - hd.getD b 0) / 256])).2 260).length = 16 := by rw [sq_2 (by omega)]; exact l260
  have c3 := c_wr1 (x := (ob.length - hd.getD b 0) % 256) T3 (by simp only [List.length_append, List.length_singleton]; omega)
  have T4 := T3.set (cs := ob ++ headL 6 D.length ++ [(ob.length - hd.getD b 0) / 256] ++ [(ob.length - hd.getD b 0) % 256]) (by simp only [List.length_append, List.length_singleton]; omega)
  have R4 := R3.other (N2 := 640) (k2 := 1) (a2 := 250) (ds := ob ++ headL 6 D.length ++ [(ob.length - hd.getD b 0) / 256] ++ [(ob.length - hd.getD b 0) % 256]) (by omega) (by omega)
  have F4 := F3.tr (Ch.sq (k := 1) (a := 250) (bs := ob ++ headL 6 D.length ++ [(ob.length - hd.getD b 0) / 256] ++ [(ob.length - hd.getD b 0) % 256]) (by rw [T3.2.1]; simp only [List.length_append, List.length_singleton]; omega)).wb
  have c4 := c_writePacked R4 hdb T4 (by simp only [List.length_append, List.length_singleton]; omega)
  have T5 := T4.set (cs := ob ++ headL 6 D.length ++ [(ob.length - hd.getD b 0) / 256] ++ [(ob.length - hd.getD b 0) % 256] ++ packL D) (by simp only [List.length_append, List.length_singleton]; omega)
  have F5 := F4.tr (Ch.sq (k := 1) (a := 250) (bs := ob ++ headL 6 D.length ++ [(ob.length - hd.getD b 0) / 256] ++ [(ob.length - hd.getD b 0) % 256] ++ packL D) (by rw [T4.2.1]; simp only [List.length_append, List.length_singleton]; omega)).wb
  refine ⟨_, ?_, ?_, g3.wr.tr F5⟩
  · have tq := qt (S := S)
    have tq2 := qt (S := sqSet S1 1 250 (ob ++ headL 6 D.length))
    have tq3 := qt (S := sqSet (sqSet S1 1 250 (ob ++ headL 6 D.length)) 1 250 (ob ++ headL 6 D.length ++ [(ob.length - hd.getD b 0) / 256]))
    have tq4 := qt (S := sqSet (sqSet (sqSet S1 1 250 (ob ++ headL 6 D.length)) 1 250 (ob ++ headL 6 D.length ++ [(ob.length - hd.getD b 0) / 256])) 1 250 (ob ++ headL 6 D.length ++ [(ob.length - hd.getD b 0) / 256] ++ [(ob.length - hd.getD b 0) % 256]))
    have e0 : ¬ (256 : Int32) = 0 := by decide
    have nb : ¬ nI b < 0 := nI_pos (by omega)
    have m1 : nI ob.length - nI (hd.getD b 0) = nI (ob.length - hd.getD b 0) := pk_sub hhd
    have m2 : nI (ob.length - hd.getD b 0) / 256 = nI ((ob.length - hd.getD b 0) / 256) := pk_div (d := 256) (by omega) (by omega) (by omega)
    have m3 : nI (ob.length - hd.getD b 0) - nI (ob.length - hd.getD b 0) / 256 * 256 = nI ((ob.length - hd.getD b 0) % 256) := pk_rem (d := 256) (by omega) (by omega) (by omega)
    have m3' : nI (ob.length - hd.getD b 0) - nI ((ob.length - hd.getD b 0) / 256) * 256 = nI ((ob.length - hd.getD b 0) % 256) := by rw [← m2]; exact m3
    have gh2 := fun (K : Value → Option (Option Value × vH)) => ga (S := sqSet S1 1 250 (ob ++ headL 6 D.length)) (i := b) (K := K) (a := 260) rfl l260 (show b < 16 by have := hH.2.2; omega) (by omega)
    have gh3 := fun (K : Value → Option (Option Value × vH)) => ga (S := sqSet (sqSet S1 1 250 (ob ++ headL 6 D.length)) 1 250 (ob ++ headL 6 D.length ++ [(ob.length - hd.getD b 0) / 256])) (i := b) (K := K) (a := 260) rfl l261 (show b < 16 by have := hH.2.2; omega) (by omega)
    show runv 51 0 [some (.ref 249), some (.int (nI i)), some (.int (nI b)), none, none, none] [] (hp S) = _
    simp only [s51_0, s51_1, s51_4, s51_5, s51_6, s51_7, s51_8, s51_11, s51_13, s51_14, s51_17, s51_18, s51_19, s51_20, s51_23, s51_24, s51_25, s51_28, q14, q1, hT.1, ga rfl hP.2.1 (show i < 16 by omega) (by omega), ga rfl hP.2.1 (show b < 16 by omega) (by omega), hP.get hi, hP.get hbp, if_neg nb, List.length_cons, List.length_nil, Nat.reduceAdd, Nat.reduceLeDiff, Nat.zero_le, tq, g1, vbind_some, vpush_none]
    simp only [s51_72, s51_73, s51_76, s51_78, s51_87, if_neg nb]
    rw [show (6 : Int32) = nI 6 from rfl, c1]
    simp only [s51_143, s51_144, s51_147, s51_148, s51_150, s51_151, s51_154, s51_155, s51_156, s51_157, s51_160, s51_161, s51_164, s51_165, s51_167, s51_168, s51_171, s51_172, s51_173, s51_174, s51_177, s51_178, s51_181, s51_182, s51_185, if_neg nb, q15, gh2, hH2, m1, e0, not_false_eq_true, m3', m2, List.length_cons, List.length_nil, Nat.reduceAdd, Nat.reduceLeDiff, Nat.zero_le, tq2, tq3, tq4, c2, c3, c4, gh3, hH3, vbind_some, vpush_none]
  · unfold backE
    rw [hDD]
    have e : ob ++ headL 6 D.length ++ [(ob.length - hd.getD b 0) / 256] ++ [(ob.length - hd.getD b 0) % 256] ++ packL D = ob ++ (headL 6 D.length ++ [(ob.length - hd.getD b 0) / 256, (ob.length - hd.getD b 0) % 256] ++ packL D) := by simp
    rw [← e]
    exact T5
end REF20
