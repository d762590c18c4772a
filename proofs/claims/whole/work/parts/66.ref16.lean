/-! the reference: select -/
theorem MkIs.set {S : vSt} {f : Nat → Bool} {i : Nat} (h : MkIs S f) (hi : i < 40) (b : Bool) : MkIs (au S 255 ((S.2 255).set i (bI b))) (fun x => if x = i then b else f x) := by
  refine ⟨by rw [au_at, List.length_set]; exact h.1, fun j hj => ?_⟩
  rw [au_at]
  by_cases q : j = i
  · subst q
    rw [getD_set_self (by rw [h.1]; exact hi)]
    simp
  · rw [getD_set_ne (fun z => q z.symm)]
    simp only [if_neg q]
    exact h.2 j hj
theorem MkIs.congr {S : vSt} {f g : Nat → Bool} (h : MkIs S f) (e : ∀ j, j < 40 → f j = g j) : MkIs S g := ⟨h.1, fun j hj => by rw [h.2 j hj, e j hj]⟩
section REF16
variable {os : List Obj} {wn hv : List Int32}
theorem c_sel1 (hu : Uniq os) (hw : ∀ o ∈ os, wfO o.1 o.2) (h8 : hv.length ≤ 8) : ∀ n k f S v2, k + n = hv.length → RLen S → SideIs S 0 os → MkIs S f → S.1 249 11 = nI hv.length → (S.2 258).take hv.length = hv → ∃ S1 v2', runv 54 6 [some (.ref 249), some (.int (nI k)), v2] [] (hp S) = runv 54 42 [some (.ref 249), some (.int (nI hv.length)), v2'] [] (hp S1) ∧ MkIs S1 (hvF os (hv.drop k) f) ∧ CFr S S1 := by
  intro n
  induction n with
  | zero =>
    intro k f S v2 hk hL hS hM h11 h12
    have : k = hv.length := by omega
    subst this
    rw [List.drop_of_length_le (Nat.le_refl _)]
    refine ⟨S, v2, ?_, hM, CFr.rf⟩
    rw [s54_6]
    simp only [s54_7, s54_8, s54_11, q11, h11]
    rw [if_pos (nI_le (Nat.le_refl _) (by omega))]
  | succ n ih =>
    intro k f S v2 hk hL hS hM h11 h12
    have hkl : k < hv.length := by omega
    have hc := hS.2.2.1
    have hc0 : cap0 0 = 16 := rfl
    have hg : (S.2 258).getD k 0 = hv[k] := by
      have e : ((S.2 258).take hv.length)[k]? = hv[k]? := by rw [h12]
      rw [List.getElem?_take_of_lt hkl, List.getElem?_eq_getElem hkl] at e
      rw [List.getD_eq_getElem?_getD, e]
      rfl
    have tq := qt (S := S)
    have ef := c_rfind hL hS hu hv[k]
    have e0 : (nI 0 : Int32) = 0 := rfl
    rw [e0] at ef
    rw [List.drop_eq_getElem_cons hkl]
    unfold hvF
    have st : runv 54 6 [some (.ref 249), some (.int (nI k)), v2] [] (hp S) = if oJ (st0 0) (fIdx os hv[k]) < 0 then runv 54 36 [some (.ref 249), some (.int (nI k)), some (.int (oJ (st0 0) (fIdx os hv[k])))] [] (hp S) else vbind (callv 38 [.ref 249, .int 0, .int (oJ (st0 0) (fIdx os hv[k]))] (hp S)) (fun v h' => runv 54 36 [some (.ref 249), some (.int (nI k)), some (.int (oJ (st0 0) (fIdx os hv[k])))] (vpush v []) h') := by
      rw [s54_6]
      simp only [s54_7, s54_8, s54_11, s54_14, s54_15, s54_16, s54_17, s54_20, s54_21, s54_22, s54_25, s54_26, s54_27, s54_30, s54_31, s54_32, s54_33, q11, q12, h11, ga rfl hL.2.2.2.2.2.2.2.2.1 (show k < 8 by omega) (by omega), hg, List.length_cons, List.length_nil, Nat.reduceAdd, Nat.reduceLeDiff, Nat.zero_le, tq, ef, vbind_some, vpush_some]
      rw [if_neg (nI_ge (by omega) (by omega))]
    have nx : ∀ S1 v, runv 54 36 [some (.ref 249), some (.int (nI k)), v] [] (hp S1) = runv 54 6 [some (.ref 249), some (.int (nI (k + 1))), v] [] (hp S1) := fun S1 v => by
      simp only [s54_36, s54_39, nI_1]
    rw [st]
    cases hf : fIdx os hv[k] with
    | none =>
      rw [if_pos (show oJ (st0 0) none < 0 by decide), nx]
      exact ih (k + 1) f S _ (by omega) hL hS hM h11 h12
    | some p =>
      have hp0 := fIdx_lt hf
      rw [if_neg (show ¬ oJ (st0 0) (some p) < 0 from nI_pos (by have : st0 0 = 0 := rfl; omega))]
      obtain ⟨S1, k1, k2, k3, k4⟩ := c_rclose hu hw hL hS hM hp0
      rw [e0] at k1
      rw [show oJ (st0 0) (some p) = nI (st0 0 + p) from rfl, k1, vbind_some, vpush_none, nx]
      obtain ⟨S2, v2', g1, g2, g3⟩ := ih (k + 1) (cls os (st0 0) f p).1 S1 (some (.int (nI (st0 0 + p)))) (by omega) (k4.len hL) (k4.side hS) k2 (by rw [k4.1 _ _ (by omega)]; exact h11) (by rw [k4.2.1 _ (by omega)]; exact h12)
      exact ⟨S2, v2', g1, g2, k4.tr g3⟩
def shP (f : Nat → Bool) (i : Nat) : Nat → Bool := fun x => if x < i then false else if 16 ≤ x ∧ x < 16 + i then f (x - 16) else f x
theorem c_sel2 {f : Nat → Bool} {v2 : Option Value} : ∀ n k S, k + n = 16 → MkIs S (shP f k) → ∃ S1, runv 54 44 [some (.ref 249), some (.int (nI k)), v2] [] (hp S) = runv 54 78 [some (.ref 249), some (.int (nI 16)), v2] [] (hp S1) ∧ MkIs S1 (shF f) ∧ CFr S S1 := by
  intro n
  induction n with
  | zero =>
    intro k S hk hM
    have : k = 16 := by omega
    subst this
    refine ⟨S, ?_, hM.congr (fun j hj => ?_), CFr.rf⟩
    · rw [s54_44]
      simp only [s54_45, s54_47]
      rw [if_pos (show (16 : Int32) ≤ nI 16 by decide)]
    · unfold shP shF
      by_cases h1 : j < 16
      · rw [if_pos h1, if_pos h1]
      · rw [if_neg h1, if_neg h1]
        by_cases h2 : j < 32
        · rw [if_pos ⟨by omega, by omega⟩, if_pos h2]
        · rw [if_neg (fun q => by omega), if_neg h2]
  | succ n ih =>
    intro k S hk hM
    have hk16 : k < 16 := by omega
    have M1 := hM.set (show 16 + k < 40 by omega) (shP f k k)
    have F1 := CFr.mk (S := S) (i := 16 + k) (x := bI (shP f k k))
    have M2 := M1.set (show k < 40 by omega) false
    have F2 := CFr.mk (S := au S 255 ((S.2 255).set (16 + k) (bI (shP f k k)))) (i := k) (x := bI false)
    obtain ⟨S1, g1, g2, g3⟩ := ih (k + 1) _ (by omega) (M2.congr (g := shP f (k + 1)) (fun j hj => by
      by_cases a1 : j = k
      · subst a1
        simp [shP]
      · simp only [if_neg a1]
        by_cases a2 : j = 16 + k
        · subst a2
          simp only [if_true, shP]
          rw [if_neg (by omega), if_neg (fun q => by omega), if_neg (by omega), if_pos ⟨by omega, by omega⟩]
          congr 1
          omega
        · simp only [if_neg a2, shP]
          by_cases a3 : j < k
          · rw [if_pos a3, if_pos (by omega)]
          · rw [if_neg a3, if_neg (show ¬ j < k + 1 by omega)]
            by_cases a4 : 16 ≤ j ∧ j < 16 + k
            · rw [if_pos a4, if_pos ⟨a4.1, by omega⟩]
            · rw [if_neg a4, if_neg (fun q => a4 ⟨q.1, by omega⟩)]))
    refine ⟨S1, ?_, g2, (F1.tr F2).tr g3⟩
    rw [← g1, s54_44]
    have w1 := fun (K2 : vH → Option (Option Value × vH)) => gbs (S := S) (x := bI (shP f k k)) (K2 := K2) rfl hM.1 (show 16 + k < 40 by omega) (by omega)
    have w2 := fun (K2 : vH → Option (Option Value × vH)) => gbs (S := au S 255 ((S.2 255).set (16 + k) (bI (shP f k k)))) (x := 0) (K2 := K2) rfl M1.1 (show k < 40 by omega) (by omega)
    have e16 : (16 : Int32) + nI k = nI (16 + k) := nI_add 16 k
    simp only [s54_45, s54_47, s54_50, s54_51, s54_54, s54_56, s54_57, s54_58, s54_59, s54_62, s54_63, s54_64, s54_65, s54_66, s54_69, s54_70, s54_71, s54_72, s54_75, q6, gb rfl hM.1 (show k < 40 by omega) (by omega), hM.2 k (by omega), e16, bI_and, w1, vb0, w2, nI_1]
    rw [if_neg (show ¬ (16 : Int32) ≤ nI k from nI_ge (b := 16) hk16 (by omega))]
    rfl
theorem c_sel3 (hu : Uniq os) (hw : ∀ o ∈ os, wfO o.1 o.2) {v2 : Option Value} : ∀ n k f S, k + n = os.length → RLen S → SideIs S 0 os → MkIs S f → (∀ i, i < 16 → (S.2 257).getD i 0 = bI (wMk os wn i)) → ∃ S1, runv 54 80 [some (.ref 249), some (.int (nI k)), v2] [] (hp S) = runv 54 111 [some (.ref 249), some (.int (nI os.length)), v2] [] (hp S1) ∧ MkIs S1 (wnF os wn n k f) ∧ CFr S S1 := by
  intro n
  induction n with
  | zero =>
    intro k f S hk hL hS hM h8
    have hc := hS.2.2.1
    have hc0 : cap0 0 = 16 := rfl
    have : k = os.length := by omega
    subst this
    refine ⟨S, ?_, hM, CFr.rf⟩
    have g := fun (K : Value → Option (Option Value × vH)) => g251 (K := K) hL (show 0 < 2 by omega)
    have e0 : (nI 0 : Int32) = 0 := rfl
    rw [e0] at g
    rw [s54_80]
    simp only [s54_81, s54_82, s54_85, s54_86, s54_87, q2, g, hS.2.1]
    rw [if_pos (nI_le (Nat.le_refl _) (by omega))]
  | succ n ih =>
    intro k f S hk hL hS hM h8
    have hc := hS.2.2.1
    have hc0 : cap0 0 = 16 := rfl
    have hkl : k < os.length := by omega
    have tq := qt (S := S)
    have g := fun (K : Value → Option (Option Value × vH)) => g251 (K := K) hL (show 0 < 2 by omega)
    have e0 : (nI 0 : Int32) = 0 := rfl
    rw [e0] at g
    unfold wnF
    have nx : ∀ S1, runv 54 105 [some (.ref 249), some (.int (nI k)), v2] [] (hp S1) = runv 54 80 [some (.ref 249), some (.int (nI (k + 1))), v2] [] (hp S1) := fun S1 => by
      simp only [s54_105, s54_108, nI_1]
    have st : runv 54 80 [some (.ref 249), some (.int (nI k)), v2] [] (hp S) = if wMk os wn k = true then vbind (callv 38 [.ref 249, .int 0, .int (nI k)] (hp S)) (fun v h' => runv 54 105 [some (.ref 249), some (.int (nI k)), v2] (vpush v []) h') else runv 54 105 [some (.ref 249), some (.int (nI k)), v2] [] (hp S) := by
      rw [s54_80]
      simp only [s54_81, s54_82, s54_85, s54_86, s54_87, s54_90, s54_91, s54_94, s54_95, s54_96, s54_99, s54_100, s54_101, s54_102, q2, q9, g, hS.2.1, gb rfl hL.2.2.2.2.2.2.2.1 (show k < 16 by omega) (by omega), h8 k (by omega), if_bI, List.length_cons, List.length_nil, Nat.reduceAdd, Nat.reduceLeDiff, Nat.zero_le, tq]
      rw [if_neg (nI_ge (by omega) (by omega))]
    rw [st]
    cases hm : wMk os wn k with
    | false =>
      rw [if_neg (by decide), if_neg (by decide), nx]
      exact ih (k + 1) f S (by omega) hL hS hM h8
    | true =>
      rw [if_pos rfl, if_pos rfl]
      obtain ⟨S1, k1, k2, k3, k4⟩ := c_rclose hu hw hL hS hM hkl
      have ez : (0 : Nat) + k = k := by omega
      rw [e0, show st0 0 = 0 from rfl, ez] at k1
      rw [k1, vbind_some, vpush_none, nx]
      obtain ⟨S2, g1, g2, g3⟩ := ih (k + 1) (cls os (st0 0) f k).1 S1 (by omega) (k4.len hL) (k4.side hS) k2 (fun i hi => by rw [k4.2.1 _ (by omega)]; exact h8 i hi)
      exact ⟨S2, g1, g2, k4.tr g3⟩
def cutP (f : Nat → Bool) (i : Nat) : Nat → Bool := fun x => if x < i then f x && !f (16 + x) else f x
theorem c_sel4 {f : Nat → Bool} {v2 : Option Value} : ∀ n k S, k + n = 16 → MkIs S (cutP f k) → ∃ S1, runv 54 113 [some (.ref 249), some (.int (nI k)), v2] [] (hp S) = some (none, hp S1) ∧ MkIs S1 (cutF f) ∧ CFr S S1 := by
  intro n
  induction n with
  | zero =>
    intro k S hk hM
    have : k = 16 := by omega
    subst this
    refine ⟨S, ?_, hM, CFr.rf⟩
    rw [s54_113]
    simp only [s54_114, s54_116, s54_157]
    rw [if_pos (show (16 : Int32) ≤ nI 16 by decide)]
  | succ n ih =>
    intro k S hk hM
    have hk16 : k < 16 := by omega
    have v1 : cutP f k k = f k := by unfold cutP; rw [if_neg (by omega)]
    have v2' : cutP f k (16 + k) = f (16 + k) := by unfold cutP; rw [if_neg (by omega)]
    have M1 := hM.set (show k < 40 by omega) (f k && !f (16 + k))
    have F1 := CFr.mk (S := S) (i := k) (x := bI (f k && !f (16 + k)))
    obtain ⟨S1, g1, g2, g3⟩ := ih (k + 1) _ (by omega) (M1.congr (g := cutP f (k + 1)) (fun j hj => by
      by_cases a1 : j = k
      · subst a1
        simp [cutP]
      · simp only [if_neg a1, cutP]
        by_cases a3 : j < k
        · rw [if_pos a3, if_pos (by omega)]
        · rw [if_neg a3, if_neg (show ¬ j < k + 1 by omega)]))
    refine ⟨S1, ?_, g2, F1.tr g3⟩
    rw [← g1, s54_113]
    have w1 := fun (K2 : vH → Option (Option Value × vH)) => gbs (S := S) (x := bI (f k && !f (16 + k))) (K2 := K2) rfl hM.1 (show k < 40 by omega) (by omega)
    have e16 : (16 : Int32) + nI k = nI (16 + k) := nI_add 16 k
    have fin : ∀ b : Bool, b = (f k && !f (16 + k)) → runv 54 150 [some (.ref 249), some (.int (nI k)), v2] [.int (bI b), .int (nI k), .ref 255] (hp S) = runv 54 113 [some (.ref 249), some (.int (nI (k + 1))), v2] [] (hp (au S 255 ((S.2 255).set k (bI (f k && !f (16 + k)))))) := fun b hb => by
      subst hb
      simp only [s54_150, s54_151, s54_154, bI_and, w1, nI_1]
    simp only [s54_114, s54_116, s54_119, s54_120, s54_123, s54_124, s54_125, s54_128, s54_129, s54_130, s54_133, s54_134, s54_137, s54_139, s54_140, s54_141, s54_142, s54_145, s54_146, s54_149, q6, gb rfl hM.1 (show k < 40 by omega) (by omega), gb rfl hM.1 (show 16 + k < 40 by omega) (by omega), hM.2 k (by omega), hM.2 (16 + k) (by omega), v1, v2', e16, if_bI]
    rw [if_neg (show ¬ (16 : Int32) ≤ nI k from nI_ge (b := 16) hk16 (by omega))]
    cases h1 : f k with
    | false =>
      rw [if_neg (by decide)]
      exact (fin false (by rw [h1]; rfl)).trans (by rw [h1])
    | true =>
      rw [if_pos rfl]
      cases h2 : f (16 + k) with
      | true =>
        rw [if_pos rfl]
        exact (fin false (by rw [h1, h2]; rfl)).trans (by rw [h1, h2])
      | false =>
        rw [if_neg (by decide)]
        exact (fin true (by rw [h1, h2]; rfl)).trans (by rw [h1, h2])
theorem c_select {S : vSt} {bs : List Nat} {cs : List Obj} {rf : List Int32} (h : ModIs S (bs, os, cs, rf, wn, hv)) (hu : Uniq os) (hw : ∀ o ∈ os, wfO o.1 o.2) : ∃ S1, callv 54 [.ref 249] (hp S) = some (none, hp S1) ∧ MkIs S1 (selF os wn hv) ∧ CFr S S1 := by
  obtain ⟨h1, h2, h3, h4, h5, h6, h7, h8, h9, h10, h11, h12⟩ := h
  simp only at h2 h3 h4 h5 h6 h7 h8 h9 h10 h11 h12
  have tq := qt (S := S)
  obtain ⟨S1, a1, a2, a3⟩ := c_unmark h1
  obtain ⟨S2, v2', b1, b2, b3⟩ := c_sel1 hu hw h11 hv.length 0 _ S1 none (by omega) (a3.len h1) (a3.side h5) a2 (by rw [a3.1 _ _ (by omega)]; exact h10) (by rw [a3.2.1 _ (by omega)]; exact h12)
  rw [List.drop_zero] at b2
  obtain ⟨S3, c1, c2, c3⟩ := c_sel2 (v2 := v2') 16 0 S2 (by omega) (b2.congr (g := shP (hvF os hv (fun _ => false)) 0) (fun j hj => by
    unfold shP
    rw [if_neg (by omega), if_neg (fun q => by omega)]))
  have F3 := (a3.tr b3).tr c3
  obtain ⟨S4, d1, d2, d3⟩ := c_sel3 hu hw (wn := wn) (v2 := v2') os.length 0 _ S3 (by omega) (F3.len h1) (F3.side h5) c2 (fun i hi => by rw [F3.2.1 _ (by omega)]; exact h8 i hi)
  obtain ⟨S5, e1, e2, e3⟩ := c_sel4 (f := wnF os wn os.length 0 (shF (hvF os hv (fun _ => false)))) (v2 := v2') 16 0 S4 (by omega) (d2.congr (fun j hj => by
    unfold cutP
    rw [if_neg (by omega)]))
  refine ⟨S5, ?_, e2, (F3.tr d3).tr e3⟩
  have e0 : (nI 0 : Int32) = 0 := rfl
  rw [e0] at b1 c1 d1 e1
  show runv 54 0 [some (.ref 249), none, none] [] (hp S) = _
  simp only [s54_0, s54_1, s54_4, s54_5, List.length_cons, List.length_nil, Nat.reduceAdd, Nat.reduceLeDiff, Nat.zero_le, tq, a1, vbind_some, vpush_none]
  rw [b1]
  simp only [s54_42, s54_43]
  rw [c1]
  simp only [s54_78, s54_79]
  rw [d1]
  simp only [s54_111, s54_112]
  exact e1
end REF16
