/-! the reference: reading, the base -/
def lastH (q : Int32) : List Nat → Nat → Int32 → Int32
  | [], _, acc => acc
  | h :: t, i, acc => lastH q t (i + 1) (if q = nI h then nI i else acc)
theorem lastH_eq {q : Int32} : ∀ (hs : List Nat) (i : Nat) (acc : Int32), hs.Nodup → (∀ h ∈ hs, h ≤ 1000) → lastH q hs i acc = match hs.findIdx? (fun h => decide (nI h = q)) with
    | none => acc
    | some j => nI (i + j) := by
  intro hs
  induction hs with
  | nil => intro i acc _ _; rfl
  | cons h t ih =>
    intro i acc hn hb
    have hn2 := List.nodup_cons.mp hn
    unfold lastH
    rw [ih (i + 1) _ hn2.2 (fun x hx => hb x (List.mem_cons_of_mem _ hx)), List.findIdx?_cons]
    by_cases e : nI h = q
    · have e2 : q = nI h := e.symm
      have hnone : t.findIdx? (fun x => decide (nI x = q)) = none := by
        rw [List.findIdx?_eq_none_iff]
        intro x hx
        apply decide_eq_false
        intro ex
        rw [← e] at ex
        have h1 := hb x (List.mem_cons_of_mem _ hx)
        have h2 := hb h List.mem_cons_self
        have := (nI_eq (by omega) (by omega)).mp ex
        subst this
        exact hn2.1 hx
      rw [hnone]
      simp only [e, decide_true, if_true, Nat.add_zero]
    · rw [if_neg (fun z => e z.symm)]
      simp only [e, decide_false, Bool.false_eq_true, if_false]
      cases t.findIdx? (fun x => decide (nI x = q)) with
      | none => rfl
      | some j =>
        simp only [Option.map_some]
        rw [show i + 1 + j = i + (j + 1) by omega]
section REF24
variable {S : vSt} {bs hs : List Nat} {p e hd s : Nat}
theorem c_rdB_loop {v2 v3 : Option Value} {v : Int32} (hL : RLen S) (he : e < 16) (hl : hs.length = e) (hh : ∀ i, i < e → (S.2 260).getD i 0 = nI (hs.getD i 0)) (hd0 : (S.2 260).getD e 0 = nI hd) : ∀ n k f, k + n = e → runv 59 55 [some (.ref 249), some (.int (nI e)), v2, v3, some (.int v), some (.int f), some (.int (nI k))] [] (hp S) = runv 59 95 [some (.ref 249), some (.int (nI e)), v2, v3, some (.int v), some (.int (lastH (nI hd - v) (hs.drop k) k f)), some (.int (nI e))] [] (hp S) := by
  have l260 : (S.2 260).length = 16 := hL.2.2.2.2.2.2.2.2.2.2.1
  intro n
  induction n with
  | zero =>
    intro k f hk
    have : k = e := by omega
    subst this
    rw [s59_55]
    simp only [s59_57, s59_58]
    rw [if_pos (nI_le (Nat.le_refl _) (by omega)), List.drop_of_length_le (by omega)]
    rfl
  | succ n ih =>
    intro k f hk
    have g1 := fun (K : Value → Option (Option Value × vH)) => ga (S := S) (i := e) (K := K) (a := 260) rfl l260 he (by omega)
    have g2 := fun (K : Value → Option (Option Value × vH)) => ga (S := S) (i := k) (K := K) (a := 260) rfl l260 (show k < 16 by omega) (by omega)
    rw [s59_55]
    simp only [s59_57, s59_58, s59_61, s59_62, s59_65, s59_66, s59_67, s59_69, s59_70, s59_71, s59_74, s59_76, s59_77, s59_80, s59_82, s59_85, s59_87, s59_89, s59_92, q15, g1, g2, hd0, hh k (by omega), nI_1]
    rw [if_neg (nI_ge (by omega) (by omega)), drop_cons (show k < hs.length by omega)]
    unfold lastH
    by_cases c : nI hd - v = nI (hs.getD k 0)
    · rw [if_pos c, if_pos c]
      exact ih (k + 1) (nI k) (by omega)
    · rw [if_neg c, if_neg c]
      exact ih (k + 1) f (by omega)
theorem c_rdBase (hL : RLen S) (hT : SqIs S 1 250 640 bs) (bb : ∀ x ∈ bs, x < 256) (ha : S.1 249 18 = nI p) (hp0 : p ≤ bs.length) (hb5 : bs.length ≤ 500) (he : e < 16) (hl : hs.length = e) (hh : ∀ i, i < e → (S.2 260).getD i 0 = nI (hs.getD i 0)) (hd0 : (S.2 260).getD e 0 = nI hd) (hs0 : (S.2 262).getD e 0 = nI s) (hk : knownS s) (hnd : hs.Nodup) (hbd : ∀ h ∈ hs, h ≤ 1000) (hdb : hd ≤ 1000) : ∃ S1, RF e S S1 ∧ S1.2 260 = S.2 260 ∧ S1.2 262 = S.2 262 ∧ S1.2 263 = S.2 263 ∧ match rdBase bs hs hd s p with
    | .inl f => callv 59 [.ref 249, .int (nI e)] (hp S) = some (some (.int 0), hp S1) ∧ S1.1 249 18 = nI f
    | .inr (b, p1) => callv 59 [.ref 249, .int (nI e)] (hp S) = some (some (.int 1), hp S1) ∧ S1.1 249 18 = nI p1 ∧ (3 < s → (S1.2 264).getD e 0 = nI b) := by
  have l262 : (S.2 262).length = 16 := hL.2.2.2.2.2.2.2.2.2.2.2.2.1
  have l264 : (S.2 264).length = 16 := hL.2.2.2.2.2.2.2.2.2.2.2.2.2.2.1
  have g262 := fun (K : Value → Option (Option Value × vH)) => ga (S := S) (i := e) (K := K) (a := 262) rfl l262 he (by omega)
  have tq := qt (S := S)
  have hs8 : s < 8 := by rcases hk with q | q | q <;> omega
  unfold rdBase
  by_cases hs3 : s ≤ 3
  · rw [if_pos hs3]
    refine ⟨S, RF.rf, rfl, rfl, rfl, ?_, ha, fun q => by omega⟩
    show runv 59 0 [some (.ref 249), some (.int (nI e)), none, none, none, none, none] [] (hp S) = _
    simp only [s59_0, s59_1, s59_4, s59_5, s59_6, s59_7, s59_10, s59_11, q20, g262, hs0, vb1]
    rw [if_neg (show ¬ (3 : Int32) < nI s from nI_nlt (a := 3) hs3 (by omega))]
  · rw [if_neg hs3]
    have ck := c_look hT ha (by omega)
    have n3 : (3 : Int32) < nI s := nI_lt (a := 3) (by omega) (by omega)
    by_cases hp1 : p < bs.length
    · rw [if_pos hp1]
      rw [lk_in hp1] at ck
      have hx := getD_lt bb p
      have F1 : RF e S (fu S 249 18 (nI (p + 1))) := RF.f18
      have T1 := F1.seq (by omega) (by omega) hT
      have tq1 := qt (S := fu S 249 18 (nI (p + 1)))
      have c1 := c_on true ha
      rw [if_pos rfl] at c1
      have ck2 := c_look (p := p + 1) T1 (fu_at _ _ _ _) (by omega)
      have lp := c_rdB_loop (S := fu S 249 18 (nI (p + 1))) (hs := hs) (hd := hd) (v2 := some (.int (nI (bs.getD p 0)))) (v3 := some (.int (lk bs (p + 1)))) (v := 256 * nI (bs.getD p 0) + lk bs (p + 1)) (F1.len hL) he hl hh hd0 e 0 (-1) (by omega)
      rw [List.drop_zero] at lp
      have st : callv 59 [.ref 249, .int (nI e)] (hp S) = runv 59 95 [some (.ref 249), some (.int (nI e)), some (.int (nI (bs.getD p 0))), some (.int (lk bs (p + 1))), some (.int (256 * nI (bs.getD p 0) + lk bs (p + 1))), some (.int (lastH (nI hd - (256 * nI (bs.getD p 0) + lk bs (p + 1))) hs 0 (-1))), some (.int (nI e))] [] (hp (fu S 249 18 (nI (p + 1)))) := by
        rw [← lp]
        have c1' : callv 57 [.ref 249, .int 1] (hp S) = some (some (.int (bI true)), hp (fu S 249 18 (nI (p + 1)))) := c1
        show runv 59 0 [some (.ref 249), some (.int (nI e)), none, none, none, none, none] [] (hp S) = _
        simp only [s59_0, s59_1, s59_4, s59_5, s59_6, s59_7, s59_10, s59_11, s59_12, s59_13, s59_16, s59_17, s59_18, s59_19, s59_22, s59_23, s59_26, s59_27, s59_30, s59_33, s59_34, s59_35, s59_36, s59_39, s59_40, s59_43, s59_44, s59_45, s59_46, s59_47, s59_49, s59_50, s59_52, s59_53, q20, g262, hs0, if_pos n3, List.length_cons, List.length_nil, Nat.reduceAdd, Nat.reduceLeDiff, Nat.zero_le, tq, tq1, ck, c1', ck2, vbind_some, vpush_some, if_bI]
        rw [if_neg (nI_pos (by omega)), if_pos trivial]
        rfl
      rw [st]
      -- the rest, for a base and a verdict
      have g2 := fun (K : Value → Option (Option Value × vH)) => ga (S := fu S 249 18 (nI (p + 1))) (i := e) (K := K) (a := 262) rfl l262 he (by omega)
      have hs0' : ((fu S 249 18 (nI (p + 1))).2 262).getD e 0 = nI s := hs0
      have k6 : (nI s = 6) = (s = 6) := nI_inj (b := 6) (by omega) (by omega)
      have k7 : (nI s = 7) = (s = 7) := nI_inj (b := 7) (by omega) (by omega)
      have rest : ∀ (v2 : Option Value) (low v f : Int32) (v6 : Option Value), runv 59 95 [some (.ref 249), some (.int (nI e)), v2, some (.int low), some (.int v), some (.int f), v6] [] (hp (fu S 249 18 (nI (p + 1)))) = some (some (.int (bI (decide (¬ low < 0) && (decide (s = 7) || decide (¬ f < 0))))), hp (fu (au (fu S 249 18 (nI (p + 1))) 264 ((S.2 264).set e (if s = 6 then f else v))) 249 18 (nI (if (decide (¬ low < 0) && (decide (s = 7) || decide (¬ f < 0))) = true then p + 1 + 1 else p + 1)))) := by
        intro v2 low v f v6
        have w := fun (x : Int32) (K2 : vH → Option (Option Value × vH)) => gs (S := fu S 249 18 (nI (p + 1))) (i := e) (x := x) (K2 := K2) (a := 264) rfl l264 he (by omega)
        have fin : ∀ (x : Int32) (g : Bool), runv 59 145 [some (.ref 249), some (.int (nI e)), v2, some (.int low), some (.int v), some (.int f), v6] [.int (bI g), .ref 249] (hp (au (fu S 249 18 (nI (p + 1))) 264 ((S.2 264).set e x))) = some (some (.int (bI g)), hp (fu (au (fu S 249 18 (nI (p + 1))) 264 ((S.2 264).set e x)) 249 18 (nI (if g = true then p + 1 + 1 else p + 1)))) := fun x g => by
          have tq3 := qt (S := au (fu S 249 18 (nI (p + 1))) 264 ((S.2 264).set e x))
          have a3 : (au (fu S 249 18 (nI (p + 1))) 264 ((S.2 264).set e x)).1 249 18 = nI (p + 1) := by rw [au_1, fu_at]
          simp only [s59_145, s59_148, List.length_cons, List.length_nil, Nat.reduceAdd, Nat.reduceLeDiff, Nat.zero_le, tq3, c_on g a3, vbind_some, vpush_some, bI_and]
        have fin2 : ∀ x : Int32, runv 59 119 [some (.ref 249), some (.int (nI e)), v2, some (.int low), some (.int v), some (.int f), v6] [] (hp (au (fu S 249 18 (nI (p + 1))) 264 ((S.2 264).set e x))) = some (some (.int (bI (decide (¬ low < 0) && (decide (s = 7) || decide (¬ f < 0))))), hp (fu (au (fu S 249 18 (nI (p + 1))) 264 ((S.2 264).set e x)) 249 18 (nI (if (decide (¬ low < 0) && (decide (s = 7) || decide (¬ f < 0))) = true then p + 1 + 1 else p + 1)))) := fun x => by
          have g3 := fun (K : Value → Option (Option Value × vH)) => ga (S := au (fu S 249 18 (nI (p + 1))) 264 ((S.2 264).set e x)) (i := e) (K := K) (a := 262) rfl (show ((au (fu S 249 18 (nI (p + 1))) 264 ((S.2 264).set e x)).2 262).length = 16 by rw [au_a _ _ (by omega)]; exact l262) he (by omega)
          have hs3' : ((au (fu S 249 18 (nI (p + 1))) 264 ((S.2 264).set e x)).2 262).getD e 0 = nI s := by rw [au_a _ _ (by omega)]; exact hs0
          simp only [s59_119, s59_120, s59_121, s59_124, s59_125, s59_128, s59_129, s59_130, s59_132, s59_135, s59_137, s59_140, s59_141, s59_144, q20, g3, hs3', k7]
          by_cases d1 : low < 0
          · rw [if_pos d1, decide_eq_false (show ¬ ¬ low < 0 from fun q => q d1), Bool.false_and]
            exact fin x false
          · rw [if_neg d1, decide_eq_true (show ¬ low < 0 from d1), Bool.true_and]
            by_cases d2 : s = 7
            · rw [if_pos d2, decide_eq_true d2, Bool.true_or]
              exact fin x true
            · rw [if_neg d2, decide_eq_false d2, Bool.false_or]
              by_cases d3 : f < 0
              · rw [if_pos d3, decide_eq_false (show ¬ ¬ f < 0 from fun q => q d3)]
                exact fin x false
              · rw [if_neg d3, decide_eq_true (show ¬ f < 0 from d3)]
                exact fin x true
        simp only [s59_95, s59_96, s59_99, s59_100, s59_101, s59_104, s59_105, s59_106, s59_108, s59_111, s59_113, s59_116, s59_118, q20, q22, g2, hs0', k6, w]
        by_cases d : s = 6
        · rw [if_pos d, if_pos d]
          exact fin2 f
        · rw [if_neg d, if_neg d]
          exact fin2 v
      rw [rest]
      have F2 : ∀ (x : Int32) (y : Nat), RF e S (fu (au (fu S 249 18 (nI (p + 1))) 264 ((S.2 264).set e x)) 249 18 (nI y)) := fun x y => (F1.tr (RF.ar (S := fu S 249 18 (nI (p + 1))) (a := 264) (x := x) (by omega))).tr RF.f18
      refine ⟨fu (au (fu S 249 18 (nI (p + 1))) 264 ((S.2 264).set e (if s = 6 then lastH (nI hd - (256 * nI (bs.getD p 0) + lk bs (p + 1))) hs 0 (-1) else 256 * nI (bs.getD p 0) + lk bs (p + 1)))) 249 18 (nI (if (decide (¬ lk bs (p + 1) < 0) && (decide (s = 7) || decide (¬ lastH (nI hd - (256 * nI (bs.getD p 0) + lk bs (p + 1))) hs 0 (-1) < 0))) = true then p + 1 + 1 else p + 1)), F2 _ _, by rw [fu_2, au_a _ _ (by omega), fu_2], by rw [fu_2, au_a _ _ (by omega), fu_2], by rw [fu_2, au_a _ _ (by omega), fu_2], ?_⟩
      by_cases hp2 : p + 1 < bs.length
      · rw [if_pos hp2]
        have hy := getD_lt bb (p + 1)
        rw [lk_in hp2]
        have ev : (256 : Int32) * nI (bs.getD p 0) + nI (bs.getD (p + 1) 0) = nI (bs.getD p 0 * 256 + bs.getD (p + 1) 0) := by
          rw [show (256 : Int32) * nI (bs.getD p 0) = nI (256 * bs.getD p 0) from pk_mul 256 _, nI_add, Nat.mul_comm]
        rw [ev, lastH_eq hs 0 (-1) hnd hbd, hdIdx_eq hbd hdb (by omega), decide_eq_true (show ¬ nI (bs.getD (p + 1) 0) < 0 from nI_pos (by omega)), Bool.true_and]
        by_cases h7 : s = 7
        · rw [if_pos h7, decide_eq_true h7, Bool.true_or, if_neg (show ¬ s = 6 by omega)]
          refine ⟨rfl, fu_at _ _ _ _, fun _ => ?_⟩
          rw [fu_2, au_at, getD_set_self (by omega)]
        · have h6 : s = 6 := by rcases hk with q | q | q <;> omega
          rw [if_neg h7, decide_eq_false h7, Bool.false_or, if_pos h6]
          cases hi : hdIdx hs hd (bs.getD p 0 * 256 + bs.getD (p + 1) 0) with
          | none =>
            simp only
            rw [decide_eq_false (show ¬ ¬ (-1 : Int32) < 0 by decide)]
            exact ⟨rfl, fu_at _ _ _ _⟩
          | some j =>
            simp only
            have hj : j < hs.length := by
              unfold hdIdx at hi
              exact (List.findIdx?_eq_some_iff_getElem.mp hi).1
            rw [decide_eq_true (show ¬ nI (0 + j) < 0 from nI_pos (by omega))]
            refine ⟨rfl, fu_at _ _ _ _, fun _ => ?_⟩
            rw [fu_2, au_at, getD_set_self (by omega), Nat.zero_add]
      · rw [if_neg hp2, lk_out hp2, decide_eq_false (show ¬ ¬ (-1 : Int32) < 0 by decide), Bool.false_and]
        exact ⟨rfl, fu_at _ _ _ _⟩
    · rw [if_neg hp1]
      rw [lk_out hp1] at ck
      have c1 := c_on false ha
      have c1' : callv 57 [.ref 249, .int 0] (hp S) = some (some (.int (bI false)), hp (fu S 249 18 (nI p))) := c1
      refine ⟨fu S 249 18 (nI p), RF.f18, rfl, rfl, rfl, ?_, fu_at _ _ _ _⟩
      show runv 59 0 [some (.ref 249), some (.int (nI e)), none, none, none, none, none] [] (hp S) = _
      simp only [s59_0, s59_1, s59_4, s59_5, s59_6, s59_7, s59_10, s59_11, s59_12, s59_13, s59_16, s59_17, s59_18, s59_19, s59_22, s59_23, s59_26, s59_27, s59_30, s59_33, s59_34, q20, g262, hs0, if_pos n3, List.length_cons, List.length_nil, Nat.reduceAdd, Nat.reduceLeDiff, Nat.zero_le, tq, ck, c1', vbind_some, vpush_some, if_bI, vb0]
      rw [if_pos (show (-1 : Int32) < 0 by decide), if_neg (by decide)]
end REF24
