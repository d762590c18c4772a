/-! the reference: closures -/
abbrev Cst : Type := (Nat → Bool) × Bool × Bool
def mkU (f : Nat → Bool) (j : Nat) : Nat → Bool := fun x => if x = j then true else f x
def clI (os : List Obj) (o : Obj) (b : Nat) : Nat → Nat → Cst → Cst
  | 0, _, st => st
  | n + 1, i, st => clI os o b n (i + 1) (match nmd os o i with
    | none => (st.1, false, st.2.2)
    | some j => (mkU st.1 (b + j), st.2.1, st.2.2 || !st.1 (b + j)))
def clR (os : List Obj) (b : Nat) : List Obj → Nat → Cst → Cst
  | [], _, st => st
  | o :: t, k, st => clR os b t (k + 1) (if st.1 (b + k) = true then clI os o b (nmN o.1 o.2.length) 0 st else st)
def clL (os : List Obj) (b : Nat) : Nat → Cst → Cst
  | 0, st => st
  | n + 1, st => if st.2.2 = true then clL os b n (clR os b os 0 (st.1, st.2.1, false)) else st
def cls (os : List Obj) (b : Nat) (f : Nat → Bool) (p : Nat) : Cst := clL os b 25 (mkU f (b + p), true, true)
def MkIs (S : vSt) (f : Nat → Bool) : Prop := (S.2 255).length = 40 ∧ ∀ j, j < 40 → (S.2 255).getD j 0 = bI (f j)
def CFr (S S1 : vSt) : Prop := (∀ b j, ¬ (b = 249 ∧ j = 7) → S1.1 b j = S.1 b j) ∧ (∀ b, b ≠ 255 → S1.2 b = S.2 b) ∧ (S1.2 255).length = (S.2 255).length
theorem CFr.rf {S : vSt} : CFr S S := ⟨fun _ _ _ => rfl, fun _ _ => rfl, rfl⟩
theorem CFr.tr {S S1 S2 : vSt} (h : CFr S S1) (g : CFr S1 S2) : CFr S S2 := ⟨fun b j q => (g.1 b j q).trans (h.1 b j q), fun b q => (g.2.1 b q).trans (h.2.1 b q), g.2.2.trans h.2.2⟩
theorem CFr.f7 {S : vSt} {x : Int32} : CFr S (fu S 249 7 x) := ⟨fun b j q => by
  by_cases e : b = 249
  · exact fu_k _ _ (fun z => q ⟨e, z⟩)
  · exact fu_a _ _ e, fun _ _ => rfl, rfl⟩
theorem CFr.mk {S : vSt} {i : Nat} {x : Int32} : CFr S (au S 255 ((S.2 255).set i x)) := ⟨fun _ _ _ => rfl, fun b q => au_a _ _ q, by rw [au_at, List.length_set]⟩
theorem CFr.len {S S1 : vSt} (h : CFr S S1) (hL : RLen S) : RLen S1 := by
  have n : ∀ b, (S1.2 b).length = (S.2 b).length := by
    intro b
    by_cases q : b = 255
    · subst q; exact h.2.2
    · rw [h.2.1 b q]
  obtain ⟨g0, g1, g2, g3, g4, g5, g6, g7, g8, g9, g10, g11, g12, g13, g14, g15, g16⟩ := hL
  exact ⟨by rw [n, g0], by rw [n, g1], by rw [n, g2], by rw [n, g3], by rw [n, g4], by rw [n, g5], by rw [n, g6], by rw [n, g7], by rw [n, g8], by rw [n, g9], by rw [n, g10], by rw [n, g11], by rw [n, g12], by rw [n, g13], by rw [n, g14], by rw [n, g15], by rw [n, g16]⟩
theorem CFr.side {S S1 : vSt} (h : CFr S S1) {s : Nat} {l : List Obj} (hS : SideIs S s l) : SideIs S1 s l := hS.of (h.2.1 _ (by omega)) (h.2.1 _ (by omega)) (h.2.1 _ (by omega)) (h.2.1 _ (by omega))
theorem CFr.agr {S S1 : vSt} (h : CFr S S1) : Agr S S1 0 249 := fun b _ hb => ⟨fun j => h.1 b j (by omega), h.2.1 b (by omega)⟩
theorem CFr.mod {S S1 : vSt} (h : CFr S S1) {m : Mst} (hM : ModIs S m) : ModIs S1 m := by
  obtain ⟨h1, h2, h3, h4, h5, h6, h7, h8, h9, h10, h11, h12⟩ := hM
  have n2 : ∀ a, a ≠ 255 → S1.2 a = S.2 a := h.2.1
  have n1 : ∀ j, j ≠ 7 → S1.1 249 j = S.1 249 j := fun j hj => h.1 249 j (fun z => hj z.2)
  exact ⟨h.len h1, ⟨by rw [n1 _ (by omega)]; exact h2.1, by rw [n2 _ (by omega)]; exact h2.2.1, by rw [n2 _ (by omega)]; exact h2.2.2.1, h2.2.2.2⟩, h3, h4, h.side h5, h.side h6, by rw [n2 _ (by omega)]; exact h7, fun i hi => by rw [n2 _ (by omega)]; exact h8 i hi, by rw [n1 _ (by omega)]; exact h9, by rw [n1 _ (by omega)]; exact h10, h11, by rw [n2 _ (by omega)]; exact h12⟩
theorem MkIs.f7 {S : vSt} {f : Nat → Bool} {x : Int32} (h : MkIs S f) : MkIs (fu S 249 7 x) f := h
theorem MkIs.up {S : vSt} {f : Nat → Bool} {i : Nat} (h : MkIs S f) (hi : i < 40) : MkIs (au S 255 ((S.2 255).set i 1)) (mkU f i) := by
  refine ⟨by rw [au_at, List.length_set]; exact h.1, fun j hj => ?_⟩
  rw [au_at]
  unfold mkU
  by_cases q : j = i
  · subst q
    rw [if_pos rfl, getD_set_self (by rw [h.1]; exact hi)]
    rfl
  · rw [if_neg q, getD_set_ne (fun z => q z.symm)]
    exact h.2 j hj
section REF11
variable {s : Nat} {os : List Obj}
theorem e71 (S : vSt) (K2 : vH → Option (Option Value × vH)) : vpf (hp S) 249 9 7 (.int 1) K2 = K2 (hp (fu S 249 7 (bI true))) := q7p (b := true)
theorem e70 (S : vSt) (K2 : vH → Option (Option Value × vH)) : vpf (hp S) 249 9 7 (.int 0) K2 = K2 (hp (fu S 249 7 (bI false))) := q7p (b := false)
theorem cl_A {v1 v2 v3 v4 v5 v6 : Option Value} {S : vSt} {w : Bool} {j : Int32} (hw : S.1 249 7 = bI w) : runv 38 87 [some (.ref 249), v1, v2, v3, v4, v5, v6, some (.int j)] [] (hp S) = runv 38 108 [some (.ref 249), v1, v2, v3, v4, v5, v6, some (.int j)] [] (hp (fu S 249 7 (bI (w && decide (0 ≤ j))))) := by
  have e1 := e71 S
  have e0 := e70 S
  simp only [s38_87, s38_88, s38_89, s38_92, s38_95, s38_97, s38_100, s38_101, s38_104, s38_105, q7, hw, if_bI, e1, e0]
  cases w with
  | false =>
    rw [if_neg (by decide)]
    rfl
  | true =>
    rw [if_pos rfl]
    by_cases q : j < 0
    · rw [if_pos q, decide_eq_false (Int32.not_le.mpr q)]
      rfl
    · rw [if_neg q, decide_eq_true (Int32.not_lt.mp q)]
      rfl
theorem cl_B {v1 v2 v4 v5 v6 : Option Value} {S : vSt} {m : Bool} {f : Nat → Bool} {j : Nat} (hM : MkIs S f) (hj : j < 40) : runv 38 108 [some (.ref 249), v1, v2, some (.int (bI m)), v4, v5, v6, some (.int (nI j))] [] (hp S) = runv 38 133 [some (.ref 249), v1, v2, some (.int (bI (m || !f j))), v4, v5, v6, some (.int (nI j))] [] (hp S) := by
  simp only [s38_108, s38_109, s38_112, s38_114, s38_117, s38_118, s38_121, s38_123, s38_124, s38_127, s38_128, s38_131, s38_132, q6, if_bI, gb rfl hM.1 hj (by omega), hM.2 j hj]
  cases m with
  | true =>
    rw [if_pos rfl]
    rfl
  | false =>
    rw [if_neg (by decide), if_neg (nI_pos (by omega))]
    cases f j <;> rfl
theorem cl_Bn {v1 v2 v4 v5 v6 : Option Value} {S : vSt} {m : Bool} : runv 38 108 [some (.ref 249), v1, v2, some (.int (bI m)), v4, v5, v6, some (.int (-1))] [] (hp S) = runv 38 133 [some (.ref 249), v1, v2, some (.int (bI m)), v4, v5, v6, some (.int (-1))] [] (hp S) := by
  simp only [s38_108, s38_109, s38_112, s38_114, s38_127, s38_128, s38_131, s38_132, if_bI]
  cases m with
  | true =>
    rw [if_pos rfl]
    rfl
  | false =>
    rw [if_neg (by decide), if_pos (by decide)]
    rfl
theorem c_rclose_in {k : Nat} {o : Obj} {v2 v4 : Option Value} (hu : Uniq os) (ho : os[k]? = some o) (hw : wfO o.1 o.2) : ∀ n i (st : Cst) S v7, i + n = nmN o.1 o.2.length → RLen S → SideIs S s os → MkIs S st.1 → S.1 249 7 = bI st.2.1 → st.1 (st0 s + k) = true → ∃ S1 v6 v7', runv 38 55 [some (.ref 249), some (.int (nI s)), v2, some (.int (bI st.2.2)), v4, some (.int (nI (st0 s + k))), some (.int (nI i)), v7] [] (hp S) = runv 38 152 [some (.ref 249), some (.int (nI s)), v2, some (.int (bI (clI os o (st0 s) n i st).2.2)), v4, some (.int (nI (st0 s + k))), v6, v7'] [] (hp S1) ∧ MkIs S1 (clI os o (st0 s) n i st).1 ∧ S1.1 249 7 = bI (clI os o (st0 s) n i st).2.1 ∧ CFr S S1 := by
  intro n
  induction n with
  | zero =>
    intro i st S v7 hi hL hS hM h7 hf
    have hk : k < os.length := (List.getElem?_eq_some_iff.mp ho).1
    have hc : cap0 s ≤ 24 ∧ st0 s ≤ 16 ∧ st0 s + cap0 s ≤ 40 := by unfold cap0 st0; split <;> omega
    have hle := hS.2.2.1
    have tq := qt (S := S)
    have hsl := hS.2.2.2 k o ho
    have hN : nmN o.1 o.2.length ≤ 24 := by have := hsl.2.2.2.2.1; unfold nmN; split; omega; split <;> omega
    refine ⟨S, some (.int (nI i)), v7, ?_, hM, h7, CFr.rf⟩
    rw [s38_55]
    simp only [s38_56, s38_59, s38_61, s38_62, s38_65, s38_67, s38_68, s38_70, s38_73, q6, gb rfl hM.1 (show st0 s + k < 40 by omega) (by omega), hM.2 _ (show st0 s + k < 40 by omega), hf, List.length_cons, List.length_nil, Nat.reduceAdd, Nat.reduceLeDiff, Nat.zero_le, tq, c_rnames hL hsl hw, vbind_some, vpush_some]
    rw [if_neg (show ¬ bI true = 0 by decide), if_pos (nI_le (by omega) (by omega))]
    rfl
  | succ n ih =>
    intro i st S v7 hi hL hS hM h7 hf
    have hk : k < os.length := (List.getElem?_eq_some_iff.mp ho).1
    have hc : cap0 s ≤ 24 ∧ st0 s ≤ 16 ∧ st0 s + cap0 s ≤ 40 := by unfold cap0 st0; split <;> omega
    have hle := hS.2.2.1
    have tq := qt (S := S)
    have hsl := hS.2.2.2 k o ho
    have hN : nmN o.1 o.2.length ≤ 24 := by have := hsl.2.2.2.2.1; unfold nmN; split; omega; split <;> omega
    have hd : runv 38 55 [some (.ref 249), some (.int (nI s)), v2, some (.int (bI st.2.2)), v4, some (.int (nI (st0 s + k))), some (.int (nI i)), v7] [] (hp S) = runv 38 87 [some (.ref 249), some (.int (nI s)), v2, some (.int (bI st.2.2)), v4, some (.int (nI (st0 s + k))), some (.int (nI i)), some (.int (oJ (st0 s) (nmd os o i)))] [] (hp S) := by
      rw [s38_55]
      simp only [s38_56, s38_59, s38_61, s38_62, s38_65, s38_67, s38_68, s38_70, s38_73, s38_76, s38_77, s38_78, s38_80, s38_82, s38_85, q6, gb rfl hM.1 (show st0 s + k < 40 by omega) (by omega), hM.2 _ (show st0 s + k < 40 by omega), hf, List.length_cons, List.length_nil, Nat.reduceAdd, Nat.reduceLeDiff, Nat.zero_le, tq, c_rnames hL hsl hw, c_rnamed hL hsl hS hu (show i < nmN o.1 o.2.length by omega), vbind_some, vpush_some]
      rw [if_neg (show ¬ bI true = 0 by decide), if_neg (nI_ge (by omega) (by omega))]
    rw [hd, cl_A h7]
    have hF := CFr.f7 (S := S) (x := bI (st.2.1 && decide (0 ≤ oJ (st0 s) (nmd os o i))))
    unfold clI
    cases hn : nmd os o i with
    | none =>
      rw [hn] at hF
      rw [show oJ (st0 s) none = -1 from rfl] at *
      rw [cl_Bn]
      obtain ⟨S1, v6, v7', g1, g2, g3, g4⟩ := ih (i + 1) (st.1, false, st.2.2) (fu S 249 7 (bI (st.2.1 && decide (0 ≤ (-1 : Int32))))) (some (.int (-1))) (by omega) (hF.len hL) (hF.side hS) hM.f7 (by rw [fu_at, decide_eq_false (by decide), Bool.and_false]) hf
      refine ⟨S1, v6, v7', ?_, g2, g3, hF.tr g4⟩
      rw [← g1]
      simp only [s38_133, s38_135, s38_138, s38_139, s38_142, s38_144, s38_145, s38_146, s38_149, nI_1]
      rw [if_pos (by decide)]
    | some j =>
      rw [hn] at hF
      have hj := nmd_lt hn
      rw [show oJ (st0 s) (some j) = nI (st0 s + j) from rfl] at *
      rw [cl_B hM.f7 (show st0 s + j < 40 by omega)]
      have hF2 := CFr.mk (S := fu S 249 7 (bI (st.2.1 && decide (0 ≤ nI (st0 s + j))))) (i := st0 s + j) (x := 1)
      have hF3 := hF.tr hF2
      obtain ⟨S1, v6, v7', g1, g2, g3, g4⟩ := ih (i + 1) (mkU st.1 (st0 s + j), st.2.1, st.2.2 || !st.1 (st0 s + j)) _ (some (.int (nI (st0 s + j)))) (by omega) (hF3.len hL) (hF3.side hS) (hM.f7.up (by omega)) (by rw [au_1, fu_at, decide_eq_true (nI_pos' (by omega)), Bool.and_true]) (by show mkU st.1 (st0 s + j) (st0 s + k) = true; unfold mkU; split; rfl; exact hf)
      refine ⟨S1, v6, v7', ?_, g2, g3, hF3.tr g4⟩
      rw [← g1]
      simp only [s38_133, s38_135, s38_138, s38_139, s38_142, s38_144, s38_145, s38_146, s38_149, nI_1, q6, vb1, gbs (S := fu S 249 7 (bI (st.2.1 && decide (0 ≤ nI (st0 s + j))))) (x := 1) rfl hM.f7.1 (show st0 s + j < 40 by omega) (by omega)]
      rw [if_neg (nI_pos (by omega))]
theorem clI_up {o : Obj} {b : Nat} {x : Nat} : ∀ n i (st : Cst), st.1 x = true → (clI os o b n i st).1 x = true := by
  intro n
  induction n with
  | zero => intro i st h; exact h
  | succ n ih =>
    intro i st h
    unfold clI
    apply ih
    split
    · exact h
    · show mkU st.1 _ x = true
      unfold mkU
      split
      · rfl
      · exact h
theorem c_rclose_k {v2 v4 : Option Value} (hu : Uniq os) (hw : ∀ o ∈ os, wfO o.1 o.2) : ∀ n k (st : Cst) S v6 v7, k + n = os.length → RLen S → SideIs S s os → MkIs S st.1 → S.1 249 7 = bI st.2.1 → ∃ S1 v5 v6' v7', runv 38 36 [some (.ref 249), some (.int (nI s)), v2, some (.int (bI st.2.2)), v4, some (.int (nI (st0 s + k))), v6, v7] [] (hp S) = runv 38 158 [some (.ref 249), some (.int (nI s)), v2, some (.int (bI (clR os (st0 s) (os.drop k) k st).2.2)), v4, v5, v6', v7'] [] (hp S1) ∧ MkIs S1 (clR os (st0 s) (os.drop k) k st).1 ∧ S1.1 249 7 = bI (clR os (st0 s) (os.drop k) k st).2.1 ∧ CFr S S1 := by
  intro n
  induction n with
  | zero =>
    intro k st S v6 v7 hk hL hS hM h7
    have hc : cap0 s ≤ 24 ∧ st0 s ≤ 16 ∧ st0 s + cap0 s ≤ 40 := by unfold cap0 st0; split <;> omega
    have hle := hS.2.2.1
    rw [List.drop_of_length_le (by omega)]
    refine ⟨S, some (.int (nI (st0 s + k))), v6, v7, ?_, hM, h7, CFr.rf⟩
    rw [s38_36]
    simp only [s38_38, s38_39, s38_42, s38_43, s38_46, s38_47, s38_48, s38_49, List.length_cons, List.length_nil, Nat.reduceAdd, Nat.reduceLeDiff, Nat.zero_le, c_start hS.1, vbind_some, vpush_some, q2, g251 hL hS.1, hS.2.1, nI_add]
    rw [if_pos (nI_le (by omega) (by omega))]
    rfl
  | succ n ih =>
    intro k st S v6 v7 hk hL hS hM h7
    have hc : cap0 s ≤ 24 ∧ st0 s ≤ 16 ∧ st0 s + cap0 s ≤ 40 := by unfold cap0 st0; split <;> omega
    have hle := hS.2.2.1
    have hkl : k < os.length := by omega
    rw [List.drop_eq_getElem_cons hkl]
    have hd : runv 38 36 [some (.ref 249), some (.int (nI s)), v2, some (.int (bI st.2.2)), v4, some (.int (nI (st0 s + k))), v6, v7] [] (hp S) = runv 38 55 [some (.ref 249), some (.int (nI s)), v2, some (.int (bI st.2.2)), v4, some (.int (nI (st0 s + k))), some (.int (nI 0)), v7] [] (hp S) := by
      rw [s38_36]
      simp only [s38_38, s38_39, s38_42, s38_43, s38_46, s38_47, s38_48, s38_49, s38_52, s38_53, List.length_cons, List.length_nil, Nat.reduceAdd, Nat.reduceLeDiff, Nat.zero_le, c_start hS.1, vbind_some, vpush_some, q2, g251 hL hS.1, hS.2.1, nI_add]
      rw [if_neg (nI_ge (by omega) (by omega))]
      rfl
    rw [hd]
    unfold clR
    have nx : ∀ (st1 : Cst) S1 v6' v7', runv 38 152 [some (.ref 249), some (.int (nI s)), v2, some (.int (bI st1.2.2)), v4, some (.int (nI (st0 s + k))), v6', v7'] [] (hp S1) = runv 38 36 [some (.ref 249), some (.int (nI s)), v2, some (.int (bI st1.2.2)), v4, some (.int (nI (st0 s + (k + 1)))), v6', v7'] [] (hp S1) := fun st1 S1 v6' v7' => by
      simp only [s38_152, s38_155, nI_1, Nat.add_assoc]
    cases hf : st.1 (st0 s + k) with
    | false =>
      rw [if_neg (by decide)]
      obtain ⟨S1, v5, v6', v7', g⟩ := ih (k + 1) st S (some (.int (nI 0))) v7 (by omega) hL hS hM h7
      refine ⟨S1, v5, v6', v7', ?_, g.2⟩
      rw [← g.1, ← nx st S]
      rw [s38_55]
      simp only [s38_56, s38_59, s38_61, s38_62, q6, gb rfl hM.1 (show st0 s + k < 40 by omega) (by omega), hM.2 _ (show st0 s + k < 40 by omega), hf]
      rw [if_pos (show bI false = 0 from rfl)]
    | true =>
      rw [if_pos rfl]
      have ho : os[k]? = some os[k] := List.getElem?_eq_getElem hkl
      obtain ⟨S1, v6', v7', g1, g2, g3, g4⟩ := c_rclose_in (s := s) (v2 := v2) (v4 := v4) hu ho (hw _ (List.getElem_mem hkl)) (nmN os[k].1 os[k].2.length) 0 st S v7 (by omega) hL hS hM h7 hf
      obtain ⟨S2, v5, v6'', v7'', k1, k2, k3, k4⟩ := ih (k + 1) _ S1 v6' v7' (by omega) (g4.len hL) (g4.side hS) g2 g3
      exact ⟨S2, v5, v6'', v7'', (g1.trans (nx _ _ _ _)).trans k1, k2, k3, g4.tr k4⟩
theorem c_rclose_r {v2 : Option Value} (hu : Uniq os) (hw : ∀ o ∈ os, wfO o.1 o.2) : ∀ n r (st : Cst) S v5 v6 v7, r + n = 25 → RLen S → SideIs S s os → MkIs S st.1 → S.1 249 7 = bI st.2.1 → ∃ S1, runv 38 17 [some (.ref 249), some (.int (nI s)), v2, some (.int (bI st.2.2)), some (.int (nI r)), v5, v6, v7] [] (hp S) = some (none, hp S1) ∧ MkIs S1 (clL os (st0 s) n st).1 ∧ S1.1 249 7 = bI (clL os (st0 s) n st).2.1 ∧ CFr S S1 := by
  intro n
  induction n with
  | zero =>
    intro r st S v5 v6 v7 hr hL hS hM h7
    refine ⟨S, ?_, hM, h7, CFr.rf⟩
    rw [s38_17]
    simp only [s38_19, s38_21, s38_164]
    rw [if_pos (show (24 : Int32) < nI r from nI_lt (a := 24) (by omega) (by omega))]
  | succ n ih =>
    intro r st S v5 v6 v7 hr hL hS hM h7
    rw [s38_17]
    simp only [s38_19, s38_21, s38_24, s38_25, s38_164, if_bI]
    rw [if_neg (show ¬ (24 : Int32) < nI r from nI_nlt (b := r) (a := 24) (by omega) (by omega))]
    unfold clL
    cases hm : st.2.2 with
    | false =>
      rw [if_neg (by decide), if_neg (by decide)]
      exact ⟨S, rfl, hM, h7, CFr.rf⟩
    | true =>
      rw [if_pos rfl, if_pos rfl]
      obtain ⟨S1, v5', v6', v7', g1, g2, g3, g4⟩ := c_rclose_k (s := s) (v2 := v2) (v4 := some (.int (nI r))) hu hw os.length 0 (st.1, st.2.1, false) S v6 v7 (by omega) hL hS hM h7
      rw [List.drop_zero] at g1 g2 g3
      obtain ⟨S2, k1, k2, k3, k4⟩ := ih (r + 1) _ S1 v5' v6' v7' (by omega) (g4.len hL) (g4.side hS) g2 g3
      refine ⟨S2, ?_, k2, k3, g4.tr k4⟩
      rw [← k1]
      simp only [s38_28, s38_29, s38_30, s38_31, s38_34, List.length_cons, List.length_nil, Nat.reduceAdd, Nat.reduceLeDiff, Nat.zero_le, c_start hS.1, vbind_some, vpush_some]
      refine g1.trans ?_
      simp only [s38_158, s38_161, nI_1]
theorem c_rclose {S : vSt} {f : Nat → Bool} {p : Nat} (hu : Uniq os) (hw : ∀ o ∈ os, wfO o.1 o.2) (hL : RLen S) (hS : SideIs S s os) (hM : MkIs S f) (hp0 : p < os.length) : ∃ S1, callv 38 [.ref 249, .int (nI s), .int (nI (st0 s + p))] (hp S) = some (none, hp S1) ∧ MkIs S1 (cls os (st0 s) f p).1 ∧ S1.1 249 7 = bI (cls os (st0 s) f p).2.1 ∧ CFr S S1 := by
  have hc : cap0 s ≤ 24 ∧ st0 s ≤ 16 ∧ st0 s + cap0 s ≤ 40 := by unfold cap0 st0; split <;> omega
  have hle := hS.2.2.1
  have hF : CFr S (fu (au S 255 ((S.2 255).set (st0 s + p) 1)) 249 7 (bI true)) := CFr.mk.tr CFr.f7
  obtain ⟨S1, g1, g2, g3, g4⟩ := c_rclose_r (s := s) (v2 := some (.int (nI (st0 s + p)))) hu hw 25 0 (mkU f (st0 s + p), true, true) _ none none none (by omega) (hF.len hL) (hF.side hS) (hM.up (by omega)).f7 (by rw [fu_at])
  refine ⟨S1, ?_, g2, g3, hF.tr g4⟩
  rw [← g1]
  have e1 := e71 (au S 255 ((S.2 255).set (st0 s + p) 1))
  show runv 38 0 [some (.ref 249), some (.int (nI s)), some (.int (nI (st0 s + p))), none, none, none, none, none] [] (hp S) = _
  simp only [s38_0, s38_1, s38_4, s38_5, s38_6, s38_7, s38_8, s38_9, s38_12, s38_13, s38_14, s38_15, q6, vb1, gbs (S := S) (x := 1) rfl hM.1 (show st0 s + p < 40 by omega) (by omega), e1]
  rfl
end REF11
