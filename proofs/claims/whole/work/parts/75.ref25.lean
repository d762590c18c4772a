/-! the reference: reading, the runs -/
def BF (e : Nat) (S S1 : vSt) : Prop := RF e S S1 ∧ ∀ b, b ≠ 265 → S1.2 b = S.2 b
theorem BF.rf {e : Nat} {S : vSt} : BF e S S := ⟨RF.rf, fun _ _ => rfl⟩
theorem BF.tr {e : Nat} {S S1 S2 : vSt} (h : BF e S S1) (g : BF e S1 S2) : BF e S S2 := ⟨h.1.tr g.1, fun b q => (g.2 b q).trans (h.2 b q)⟩
theorem BF.f18 {e : Nat} {S : vSt} {x : Int32} : BF e S (fu S 249 18 x) := ⟨RF.f18, fun _ _ => rfl⟩
theorem BF.by {e i : Nat} {S : vSt} {x : Int32} (hi : 256 * e ≤ i) : BF e S (au S 265 ((S.2 265).set i x)) := ⟨RF.by hi, fun b q => au_a _ _ q⟩
def EB (S : vSt) (e : Nat) (ts : List Nat) : Prop := ∀ j, j < ts.length → (S.2 265).getD (256 * e + j) 0 = nI (ts.getD j 0)
theorem EB.push {S : vSt} {e x : Nat} {ts : List Nat} (h : EB S e ts) (hl : 256 * e + ts.length < (S.2 265).length) : EB (au S 265 ((S.2 265).set (256 * e + ts.length) (nI x))) e (ts ++ [x]) := by
  intro j hj
  rw [List.length_append, List.length_singleton] at hj
  rw [au_at]
  by_cases q : j = ts.length
  · subst q
    rw [getD_set_self hl, List.getD_eq_getElem?_getD, List.getElem?_append_right (Nat.le_refl _), Nat.sub_self]
    rfl
  · rw [getD_set_ne (by omega), h j (by omega), List.getD_eq_getElem?_getD, List.getD_eq_getElem?_getD, List.getElem?_append_left (by omega)]
section REF25
variable {bs : List Nat} {e z : Nat}
theorem c_runP (bb : ∀ x ∈ bs, x < 256) (hb5 : bs.length ≤ 500) (he : e < 16) {c p more : Nat} {ts : List Nat} (hc : c < 128) (hm : ts.length + more ≤ 255) (hp0 : p < bs.length) : ∀ m k S v6 v7, k + m = more → RLen S → SqIs S 1 250 640 bs → S.1 249 18 = nI (p + 1 + k) → p + 1 + k ≤ bs.length → EB S e (ts ++ (bs.drop (p + 1)).take k) → ∃ S1, BF e S S1 ∧ (if p + 1 + more ≤ bs.length then (∃ v5 v6' v7', runv 60 70 [some (.ref 249), some (.int (nI e)), some (.int (nI ts.length)), some (.int (nI c)), some (.int (nI more)), some (.int (nI k)), v6, v7] [] (hp S) = runv 60 158 [some (.ref 249), some (.int (nI e)), some (.int (nI ts.length)), some (.int (nI c)), some (.int (nI more)), v5, v6', v7'] [] (hp S1)) ∧ S1.1 249 18 = nI (p + 1 + more) ∧ EB S1 e (ts ++ (bs.drop (p + 1)).take more) else runv 60 70 [some (.ref 249), some (.int (nI e)), some (.int (nI ts.length)), some (.int (nI c)), some (.int (nI more)), some (.int (nI k)), v6, v7] [] (hp S) = some (some (.int 0), hp S1) ∧ S1.1 249 18 = nI bs.length) := by
  intro m
  induction m with
  | zero =>
    intro k S v6 v7 hk hL hT ha hpk hE
    have : k = more := by omega
    subst this
    refine ⟨S, BF.rf, ?_⟩
    rw [if_pos hpk]
    refine ⟨⟨some (.int (nI k)), v6, v7, ?_⟩, ha, hE⟩
    rw [s60_70]
    simp only [s60_72, s60_74]
    rw [if_pos (nI_le (Nat.le_refl _) (by omega))]
  | succ m ih =>
    intro k S v6 v7 hk hL hT ha hpk hE
    have l265 : (S.2 265).length = 4096 := hL.2.2.2.2.2.2.2.2.2.2.2.2.2.2.2.1
    have tq := qt (S := S)
    have ck := c_look hT ha (by omega)
    have tl : (ts ++ (bs.drop (p + 1)).take k).length = ts.length + k := by rw [List.length_append, List.length_take, List.length_drop]; omega
    have ix : (256 : Int32) * nI e + nI ts.length + nI k = nI (256 * e + (ts.length + k)) := by rw [show (256 : Int32) * nI e = nI (256 * e) from pk_mul 256 e, nI_add, nI_add, Nat.add_assoc]
    have w := fun (x : Int32) (K2 : vH → Option (Option Value × vH)) => gs (S := S) (i := 256 * e + (ts.length + k)) (x := x) (K2 := K2) (a := 265) rfl l265 (by omega) (by omega)
    have nk : ¬ nI more ≤ nI k := nI_ge (by omega) (by omega)
    have n128 : nI c < 128 := nI_lt (b := 128) hc (by omega)
    by_cases h1 : p + 1 + k < bs.length
    · rw [lk_in h1] at ck
      have hx := getD_lt bb (p + 1 + k)
      have E1 := hE.push (x := bs.getD (p + 1 + k) 0) (by rw [tl, l265]; omega)
      rw [tl] at E1
      have e1 : ts ++ (bs.drop (p + 1)).take k ++ [bs.getD (p + 1 + k) 0] = ts ++ (bs.drop (p + 1)).take (k + 1) := by
        rw [List.append_assoc, List.take_succ, List.getElem?_drop, List.getElem?_eq_getElem h1, List.getD_eq_getElem?_getD, List.getElem?_eq_getElem h1]
        rfl
      rw [e1] at E1
      have F1 : BF e S _ := BF.by (S := S) (e := e) (i := 256 * e + (ts.length + k)) (x := nI (bs.getD (p + 1 + k) 0)) (by omega)
      have F2 := F1.tr (BF.f18 (x := nI (p + 1 + k + 1)))
      have g18 : (au S 265 ((S.2 265).set (256 * e + (ts.length + k)) (nI (bs.getD (p + 1 + k) 0)))).1 249 18 = nI (p + 1 + k) := ha
      obtain ⟨S1, k1, k2⟩ := ih (k + 1) _ (some (.int (nI (bs.getD (p + 1 + k) 0)))) (some (.int 1)) (by omega) (F2.1.len hL) (F2.1.seq (by omega) (by omega) hT) (fu_at _ _ _ _) (by omega) E1
      have st : runv 60 70 [some (.ref 249), some (.int (nI e)), some (.int (nI ts.length)), some (.int (nI c)), some (.int (nI more)), some (.int (nI k)), v6, v7] [] (hp S) = runv 60 70 [some (.ref 249), some (.int (nI e)), some (.int (nI ts.length)), some (.int (nI c)), some (.int (nI more)), some (.int (nI (k + 1))), some (.int (nI (bs.getD (p + 1 + k) 0))), some (.int 1)] [] (hp (fu (au S 265 ((S.2 265).set (256 * e + (ts.length + k)) (nI (bs.getD (p + 1 + k) 0)))) 249 18 (nI (p + 1 + k + 1)))) := by
        rw [s60_70]
        simp only [s60_72, s60_74, s60_77, s60_78, s60_81, s60_83, s60_84, s60_87, s60_90, s60_91, s60_92, s60_93, s60_94, s60_96, s60_97, s60_99, s60_100, s60_101, s60_104, s60_107, s60_109, s60_111, s60_112, s60_113, s60_116, s60_117, s60_120, s60_121, s60_123, s60_125, s60_128, s60_129, s60_130, s60_131, s60_133, s60_136, s60_137, s60_140, s60_141, s60_142, s60_145, s60_146, s60_149, s60_152, s60_155, q23, q18, if_neg nk, if_pos n128, List.length_cons, List.length_nil, Nat.reduceAdd, Nat.reduceLeDiff, Nat.zero_le, tq, ck, vbind_some, vpush_some, ix, w, g18, q18p, nI_1]
        rw [if_pos (nI_pos' (by omega)), if_neg (show ¬ (1 : Int32) = 0 by decide)]
      refine ⟨S1, F2.tr k1, ?_⟩
      rw [st]
      exact k2
    · rw [lk_out h1] at ck
      have F1 : BF e S _ := BF.by (S := S) (e := e) (i := 256 * e + (ts.length + k)) (x := -1) (by omega)
      refine ⟨_, F1, ?_⟩
      rw [if_neg (by omega)]
      refine ⟨?_, ?_⟩
      · rw [s60_70]
        simp only [s60_72, s60_74, s60_77, s60_78, s60_81, s60_83, s60_84, s60_87, s60_90, s60_91, s60_92, s60_93, s60_94, s60_96, s60_97, s60_99, s60_100, s60_101, s60_104, s60_107, s60_109, s60_111, s60_112, s60_113, s60_116, s60_117, s60_120, s60_121, s60_123, s60_125, s60_128, s60_129, q23, if_neg nk, if_pos n128, List.length_cons, List.length_nil, Nat.reduceAdd, Nat.reduceLeDiff, Nat.zero_le, tq, ck, vbind_some, vpush_some, ix, w, vb0]
        rw [if_neg (show ¬ (0 : Int32) ≤ -1 by decide)]
      · rw [au_1, ha, show p + 1 + k = bs.length by omega]
theorem c_runR (bb : ∀ x ∈ bs, x < 256) (hb5 : bs.length ≤ 500) (he : e < 16) {c p more : Nat} {ts : List Nat} (hc : 128 ≤ c) (hc2 : c < 256) (hm : ts.length + more ≤ 255) (hp1 : p + 1 < bs.length) : ∀ m k S v6 v7, k + (m + 1) = more → RLen S → SqIs S 1 250 640 bs → S.1 249 18 = nI (p + 1) → EB S e (ts ++ List.replicate k (bs.getD (p + 1) 0)) → ∃ S1 v5 v6' v7', BF e S S1 ∧ runv 60 70 [some (.ref 249), some (.int (nI e)), some (.int (nI ts.length)), some (.int (nI c)), some (.int (nI more)), some (.int (nI k)), v6, v7] [] (hp S) = runv 60 158 [some (.ref 249), some (.int (nI e)), some (.int (nI ts.length)), some (.int (nI c)), some (.int (nI more)), v5, v6', v7'] [] (hp S1) ∧ S1.1 249 18 = nI (p + 1 + 1) ∧ EB S1 e (ts ++ List.replicate more (bs.getD (p + 1) 0)) := by
  intro m
  induction m with
  | zero =>
    intro k S v6 v7 hk hL hT ha hE
    have l265 : (S.2 265).length = 4096 := hL.2.2.2.2.2.2.2.2.2.2.2.2.2.2.2.1
    have tq := qt (S := S)
    have ck := c_look hT ha (by omega)
    rw [lk_in hp1] at ck
    have hx := getD_lt bb (p + 1)
    have tl : (ts ++ List.replicate k (bs.getD (p + 1) 0)).length = ts.length + k := by rw [List.length_append, List.length_replicate]
    have ix : (256 : Int32) * nI e + nI ts.length + nI k = nI (256 * e + (ts.length + k)) := by rw [show (256 : Int32) * nI e = nI (256 * e) from pk_mul 256 e, nI_add, nI_add, Nat.add_assoc]
    have w := fun (x : Int32) (K2 : vH → Option (Option Value × vH)) => gs (S := S) (i := 256 * e + (ts.length + k)) (x := x) (K2 := K2) (a := 265) rfl l265 (by omega) (by omega)
    have nk : ¬ nI more ≤ nI k := nI_ge (by omega) (by omega)
    have n128 : ¬ nI c < 128 := nI_nlt (b := 128) hc (by omega)
    have E1 := hE.push (x := bs.getD (p + 1) 0) (by rw [tl, l265]; omega)
    rw [tl, List.append_assoc, ← List.replicate_succ', show k + 1 = more by omega] at E1
    have F1 : BF e S _ := BF.by (S := S) (e := e) (i := 256 * e + (ts.length + k)) (x := nI (bs.getD (p + 1) 0)) (by omega)
    have F2 := F1.tr (BF.f18 (x := nI (p + 1 + 1)))
    have g18 : (au S 265 ((S.2 265).set (256 * e + (ts.length + k)) (nI (bs.getD (p + 1) 0)))).1 249 18 = nI (p + 1) := ha
    have em : nI more - 1 = nI k := by rw [show more = k + 1 by omega, nI_pred]
    refine ⟨_, some (.int (nI (k + 1))), some (.int (nI (bs.getD (p + 1) 0))), some (.int 1), F2, ?_, fu_at _ _ _ _, E1⟩
    have st2 : ∀ T : vSt, runv 60 70 [some (.ref 249), some (.int (nI e)), some (.int (nI ts.length)), some (.int (nI c)), some (.int (nI more)), some (.int (nI (k + 1))), some (.int (nI (bs.getD (p + 1) 0))), some (.int 1)] [] (hp T) = runv 60 158 [some (.ref 249), some (.int (nI e)), some (.int (nI ts.length)), some (.int (nI c)), some (.int (nI more)), some (.int (nI (k + 1))), some (.int (nI (bs.getD (p + 1) 0))), some (.int 1)] [] (hp T) := fun T => by
      rw [s60_70]
      simp only [s60_72, s60_74]
      rw [if_pos (nI_le (by omega) (by omega))]
    rw [← st2, s60_70]
    simp only [s60_72, s60_74, s60_77, s60_78, s60_81, s60_83, s60_84, s60_87, s60_90, s60_91, s60_92, s60_93, s60_94, s60_96, s60_97, s60_99, s60_100, s60_101, s60_104, s60_107, s60_109, s60_111, s60_112, s60_113, s60_116, s60_117, s60_120, s60_121, s60_123, s60_125, s60_128, s60_129, s60_130, s60_131, s60_133, s60_136, s60_137, s60_140, s60_141, s60_142, s60_145, s60_146, s60_149, s60_152, s60_155, q23, q18, if_neg nk, if_neg n128, em, List.length_cons, List.length_nil, Nat.reduceAdd, Nat.reduceLeDiff, Nat.zero_le, tq, ck, vbind_some, vpush_some, ix, w, g18, q18p, nI_1]
    rw [if_pos trivial, if_pos (nI_pos' (by omega)), if_neg (show ¬ (1 : Int32) = 0 by decide)]
  | succ m ih =>
    intro k S v6 v7 hk hL hT ha hE
    have l265 : (S.2 265).length = 4096 := hL.2.2.2.2.2.2.2.2.2.2.2.2.2.2.2.1
    have tq := qt (S := S)
    have ck := c_look hT ha (by omega)
    rw [lk_in hp1] at ck
    have hx := getD_lt bb (p + 1)
    have tl : (ts ++ List.replicate k (bs.getD (p + 1) 0)).length = ts.length + k := by rw [List.length_append, List.length_replicate]
    have ix : (256 : Int32) * nI e + nI ts.length + nI k = nI (256 * e + (ts.length + k)) := by rw [show (256 : Int32) * nI e = nI (256 * e) from pk_mul 256 e, nI_add, nI_add, Nat.add_assoc]
    have w := fun (x : Int32) (K2 : vH → Option (Option Value × vH)) => gs (S := S) (i := 256 * e + (ts.length + k)) (x := x) (K2 := K2) (a := 265) rfl l265 (by omega) (by omega)
    have nk : ¬ nI more ≤ nI k := nI_ge (by omega) (by omega)
    have n128 : ¬ nI c < 128 := nI_nlt (b := 128) hc (by omega)
    have E1 := hE.push (x := bs.getD (p + 1) 0) (by rw [tl, l265]; omega)
    rw [tl, List.append_assoc, ← List.replicate_succ'] at E1
    have F1 : BF e S _ := BF.by (S := S) (e := e) (i := 256 * e + (ts.length + k)) (x := nI (bs.getD (p + 1) 0)) (by omega)
    have F2 := F1.tr (BF.f18 (x := nI (p + 1)))
    have g18 : (au S 265 ((S.2 265).set (256 * e + (ts.length + k)) (nI (bs.getD (p + 1) 0)))).1 249 18 = nI (p + 1) := ha
    have em : nI more - 1 = nI (more - 1) := by
      have := nI_pred (more - 1)
      rw [show more - 1 + 1 = more by omega] at this
      exact this
    have ne : ¬ nI k = nI (more - 1) := fun q => by
      have := (nI_eq (by omega) (by omega)).mp q
      omega
    obtain ⟨S1, v5, v6', v7', k1, k2, k3, k4⟩ := ih (k + 1) _ (some (.int (nI (bs.getD (p + 1) 0)))) (some (.int 0)) (by omega) (F2.1.len hL) (F2.1.seq (by omega) (by omega) hT) (fu_at _ _ _ _) E1
    refine ⟨S1, v5, v6', v7', F2.tr k1, ?_, k3, k4⟩
    rw [← k2, s60_70]
    simp only [s60_72, s60_74, s60_77, s60_78, s60_81, s60_83, s60_84, s60_87, s60_90, s60_91, s60_92, s60_93, s60_94, s60_96, s60_97, s60_99, s60_100, s60_101, s60_104, s60_107, s60_109, s60_111, s60_112, s60_113, s60_116, s60_117, s60_120, s60_121, s60_123, s60_125, s60_128, s60_129, s60_130, s60_131, s60_133, s60_136, s60_137, s60_140, s60_141, s60_142, s60_145, s60_146, s60_149, s60_152, s60_155, q23, q18, if_neg nk, if_neg n128, em, if_neg ne, List.length_cons, List.length_nil, Nat.reduceAdd, Nat.reduceLeDiff, Nat.zero_le, tq, ck, vbind_some, vpush_some, ix, w, g18, q18p, nI_1]
    rw [if_pos (nI_pos' (by omega)), if_pos trivial]
theorem c_rdRuns_loop (bb : ∀ x ∈ bs, x < 256) (hb5 : bs.length ≤ 500) (he : e < 16) (hz : z ≤ 255) : ∀ n left p ts S v3 v4 v5 v6 v7, left < n → ts.length + left = z → RLen S → SqIs S 1 250 640 bs → (S.2 263).getD e 0 = nI z → S.1 249 18 = nI p → p ≤ bs.length → EB S e ts → ∃ S1, BF e S S1 ∧ match rdRuns bs n left p ts with
    | .inl f => runv 60 2 [some (.ref 249), some (.int (nI e)), some (.int (nI ts.length)), v3, v4, v5, v6, v7] [] (hp S) = some (some (.int 0), hp S1) ∧ S1.1 249 18 = nI f
    | .inr (us, p1) => runv 60 2 [some (.ref 249), some (.int (nI e)), some (.int (nI ts.length)), v3, v4, v5, v6, v7] [] (hp S) = some (some (.int 1), hp S1) ∧ S1.1 249 18 = nI p1 ∧ EB S1 e us := by
  intro n
  induction n with
  | zero => intro left p ts S v3 v4 v5 v6 v7 h; omega
  | succ n ih =>
    intro left p ts S v3 v4 v5 v6 v7 hn hl hL hT hz0 ha hp0 hE
    have l263 : (S.2 263).length = 16 := hL.2.2.2.2.2.2.2.2.2.2.2.2.2.1
    have g263 := fun (K : Value → Option (Option Value × vH)) => ga (S := S) (i := e) (K := K) (a := 263) rfl l263 he (by omega)
    have tq := qt (S := S)
    have ck := c_look hT ha (by omega)
    unfold rdRuns
    by_cases h0 : left = 0
    · rw [if_pos h0]
      refine ⟨S, BF.rf, ?_, ha, hE⟩
      rw [s60_2]
      simp only [s60_3, s60_4, s60_7, s60_8, s60_9, s60_166, s60_167, q21, g263, hz0, vb1]
      rw [if_pos (nI_le (by omega) (by omega))]
    · rw [if_neg h0]
      have nz : ¬ nI z ≤ nI ts.length := nI_ge (by omega) (by omega)
      by_cases hp1 : p < bs.length
      · rw [if_pos hp1]
        rw [lk_in hp1] at ck
        have hx := getD_lt bb p
        have hrn : 1 ≤ runN (bs.getD p 0) ∧ runN (bs.getD p 0) ≤ 130 := by unfold runN; split <;> omega
        -- up to the question whether the run fits
        have st : runv 60 2 [some (.ref 249), some (.int (nI e)), some (.int (nI ts.length)), v3, v4, v5, v6, v7] [] (hp S) = vbind (callv 57 [.ref 249, .int (bI (decide (¬ left < runN (bs.getD p 0))))] (hp S)) (fun v h' => runv 60 62 [some (.ref 249), some (.int (nI e)), some (.int (nI ts.length)), some (.int (nI (bs.getD p 0))), some (.int (nI (runN (bs.getD p 0)))), v5, v6, v7] (vpush v []) h') := by
          have fin : ∀ b : Bool, runv 60 59 [some (.ref 249), some (.int (nI e)), some (.int (nI ts.length)), some (.int (nI (bs.getD p 0))), some (.int (nI (runN (bs.getD p 0)))), v5, v6, v7] [.int (bI b), .ref 249] (hp S) = vbind (callv 57 [.ref 249, .int (bI b)] (hp S)) (fun v h' => runv 60 62 [some (.ref 249), some (.int (nI e)), some (.int (nI ts.length)), some (.int (nI (bs.getD p 0))), some (.int (nI (runN (bs.getD p 0)))), v5, v6, v7] (vpush v []) h') := fun b => by
            simp only [s60_59, List.length_cons, List.length_nil, Nat.reduceAdd, Nat.reduceLeDiff, Nat.zero_le, tq]
          have mid : runv 60 2 [some (.ref 249), some (.int (nI e)), some (.int (nI ts.length)), v3, v4, v5, v6, v7] [] (hp S) = runv 60 36 [some (.ref 249), some (.int (nI e)), some (.int (nI ts.length)), some (.int (nI (bs.getD p 0))), some (.int (nI (runN (bs.getD p 0)))), v5, v6, v7] [] (hp S) := by
            rw [s60_2]
            have e125 : ¬ bs.getD p 0 < 128 → nI (bs.getD p 0) - 125 = nI (bs.getD p 0 - 125) := fun q => pk_sub (b := 125) (by omega)
            simp only [s60_3, s60_4, s60_7, s60_8, s60_9, s60_12, s60_13, s60_16, s60_17, s60_18, s60_21, s60_24, s60_25, s60_26, s60_27, s60_30, s60_31, s60_33, s60_34, q21, g263, hz0, if_neg nz, List.length_cons, List.length_nil, Nat.reduceAdd, Nat.reduceLeDiff, Nat.zero_le, tq, ck, vbind_some, vpush_some, nI_1]
            unfold runN
            by_cases c : bs.getD p 0 < 128
            · rw [if_neg (show ¬ (128 : Int32) ≤ nI (bs.getD p 0) from nI_ge (b := 128) c (by omega)), if_pos c]
            · rw [if_pos (show (128 : Int32) ≤ nI (bs.getD p 0) from nI_le (a := 128) (by omega) (by omega)), if_neg c, e125 c]
          rw [mid]
          simp only [s60_36, s60_37, s60_38, s60_41, s60_42, s60_44, s60_45, s60_46, s60_49, s60_50, s60_51, s60_54, s60_55, s60_58, q21, g263, hz0, nI_add]
          rw [if_neg (nI_pos (by omega))]
          by_cases c : left < runN (bs.getD p 0)
          · rw [if_pos (nI_lt (by omega) (by omega)), decide_eq_false (fun q => q c)]
            exact fin false
          · rw [if_neg (nI_nlt (by omega) (by omega)), decide_eq_true c]
            exact fin true
        rw [st, c_on _ ha]
        by_cases c : left < runN (bs.getD p 0)
        · rw [if_pos c, decide_eq_false (fun q => q c)]
          refine ⟨fu S 249 18 (nI (if false = true then p + 1 else p)), BF.f18, ?_, fu_at _ _ _ _⟩
          simp only [vbind_some, vpush_some, s60_62, s60_65, s60_66, if_bI, vb0]
          rw [if_neg (by decide)]
        · rw [if_neg c, decide_eq_true c]
          have F1 : BF e S (fu S 249 18 (nI (p + 1))) := BF.f18
          have T1 := F1.1.seq (by omega) (by omega) hT
          have hz1 : ((fu S 249 18 (nI (p + 1))).2 263).getD e 0 = nI z := hz0
          have st2 : vbind (some (some (Value.int (bI true)), hp (fu S 249 18 (nI (if true = true then p + 1 else p))))) (fun v h' => runv 60 62 [some (.ref 249), some (.int (nI e)), some (.int (nI ts.length)), some (.int (nI (bs.getD p 0))), some (.int (nI (runN (bs.getD p 0)))), v5, v6, v7] (vpush v []) h') = runv 60 70 [some (.ref 249), some (.int (nI e)), some (.int (nI ts.length)), some (.int (nI (bs.getD p 0))), some (.int (nI (runN (bs.getD p 0)))), some (.int (nI 0)), v6, v7] [] (hp (fu S 249 18 (nI (p + 1)))) := by
            simp only [vbind_some, vpush_some, s60_62, s60_65, s60_66, s60_67, s60_68, if_bI]
            rw [if_pos trivial]
            rfl
          rw [st2]
          have nx : ∀ (T : vSt) (us : List Nat) (v5 v6 v7 : Option Value), us.length = ts.length + runN (bs.getD p 0) → runv 60 158 [some (.ref 249), some (.int (nI e)), some (.int (nI ts.length)), some (.int (nI (bs.getD p 0))), some (.int (nI (runN (bs.getD p 0)))), v5, v6, v7] [] (hp T) = runv 60 2 [some (.ref 249), some (.int (nI e)), some (.int (nI us.length)), some (.int (nI (bs.getD p 0))), some (.int (nI (runN (bs.getD p 0)))), v5, v6, v7] [] (hp T) := fun T us v5 v6 v7 hu => by
            simp only [s60_158, s60_159, s60_161, s60_162, s60_163, nI_add, hu]
          by_cases d : bs.getD p 0 < 128
          · rw [if_pos d]
            obtain ⟨S2, k1, k2⟩ := c_runP (ts := ts) bb hb5 he d (more := runN (bs.getD p 0)) (by omega) hp1 (runN (bs.getD p 0)) 0 _ v6 v7 (by omega) (F1.1.len hL) T1 (fu_at _ _ _ _) (by omega) (by rw [List.take_zero, List.append_nil]; exact hE)
            by_cases f : p + 1 + runN (bs.getD p 0) ≤ bs.length
            · rw [if_pos f] at k2 ⊢
              obtain ⟨⟨v5', v6', v7', g1⟩, g2, g3⟩ := k2
              have ul : (ts ++ (bs.drop (p + 1)).take (runN (bs.getD p 0))).length = ts.length + runN (bs.getD p 0) := by rw [List.length_append, List.length_take, List.length_drop]; omega
              have F2 := F1.tr k1
              obtain ⟨S3, j1, j2⟩ := ih (left - runN (bs.getD p 0)) (p + 1 + runN (bs.getD p 0)) (ts ++ (bs.drop (p + 1)).take (runN (bs.getD p 0))) S2 (some (.int (nI (bs.getD p 0)))) (some (.int (nI (runN (bs.getD p 0))))) v5' v6' v7' (by omega) (by omega) (F2.1.len hL) (F2.1.seq (by omega) (by omega) hT) (by rw [F2.2 _ (by omega)]; exact hz0) g2 f g3
              refine ⟨S3, F2.tr j1, ?_⟩
              rw [g1, nx S2 _ _ _ _ ul]
              exact j2
            · rw [if_neg f] at k2 ⊢
              exact ⟨S2, F1.tr k1, k2⟩
          · rw [if_neg d]
            by_cases f : p + 1 + 1 ≤ bs.length
            · rw [if_pos f]
              obtain ⟨S2, v5', v6', v7', k1, g1, g2, g3⟩ := c_runR (ts := ts) bb hb5 he (c := bs.getD p 0) (more := runN (bs.getD p 0)) (p := p) (by omega) hx (by omega) (by omega) (runN (bs.getD p 0) - 1) 0 _ v6 v7 (by omega) (F1.1.len hL) T1 (fu_at _ _ _ _) (by rw [List.replicate_zero, List.append_nil]; exact hE)
              have ul : (ts ++ List.replicate (runN (bs.getD p 0)) (bs.getD (p + 1) 0)).length = ts.length + runN (bs.getD p 0) := by rw [List.length_append, List.length_replicate]
              have F2 := F1.tr k1
              obtain ⟨S3, j1, j2⟩ := ih (left - runN (bs.getD p 0)) (p + 1 + 1) (ts ++ List.replicate (runN (bs.getD p 0)) (bs.getD (p + 1) 0)) S2 (some (.int (nI (bs.getD p 0)))) (some (.int (nI (runN (bs.getD p 0))))) v5' v6' v7' (by omega) (by omega) (F2.1.len hL) (F2.1.seq (by omega) (by omega) hT) (by rw [F2.2 _ (by omega)]; exact hz0) g2 f g3
              refine ⟨S3, F2.tr j1, ?_⟩
              rw [g1, nx S2 _ _ _ _ ul]
              exact j2
            · rw [if_neg f]
              -- the byte that is repeated is not there
              have l265 : ((fu S 249 18 (nI (p + 1))).2 265).length = 4096 := hL.2.2.2.2.2.2.2.2.2.2.2.2.2.2.2.1
              have tq1 := qt (S := fu S 249 18 (nI (p + 1)))
              have ck1 := c_look (p := p + 1) T1 (fu_at _ _ _ _) (by omega)
              rw [lk_out (by omega)] at ck1
              have ix : (256 : Int32) * nI e + nI ts.length + nI 0 = nI (256 * e + ts.length) := by rw [show (256 : Int32) * nI e = nI (256 * e) from pk_mul 256 e, nI_add, nI_add, Nat.add_zero]
              have w := fun (x : Int32) (K2 : vH → Option (Option Value × vH)) => gs (S := fu S 249 18 (nI (p + 1))) (i := 256 * e + ts.length) (x := x) (K2 := K2) (a := 265) rfl l265 (by omega) (by omega)
              have nk : ¬ nI (runN (bs.getD p 0)) ≤ nI 0 := nI_ge (by omega) (by omega)
              have n128 : ¬ nI (bs.getD p 0) < 128 := nI_nlt (b := 128) (by omega) (by omega)
              have F2 := F1.tr (BF.by (S := fu S 249 18 (nI (p + 1))) (e := e) (i := 256 * e + ts.length) (x := -1) (by omega))
              refine ⟨_, F2, ?_, ?_⟩
              · rw [s60_70]
                simp only [s60_72, s60_74, s60_77, s60_78, s60_81, s60_83, s60_84, s60_87, s60_90, s60_91, s60_92, s60_93, s60_94, s60_96, s60_97, s60_99, s60_100, s60_101, s60_104, s60_107, s60_109, s60_111, s60_112, s60_113, s60_116, s60_117, s60_120, s60_121, s60_123, s60_125, s60_128, s60_129, q23, if_neg nk, if_neg n128, List.length_cons, List.length_nil, Nat.reduceAdd, Nat.reduceLeDiff, Nat.zero_le, tq1, ck1, vbind_some, vpush_some, ix, w, vb0]
                rw [if_neg (show ¬ (0 : Int32) ≤ -1 by decide)]
                split <;> rfl
              · rw [au_1, fu_at, show p + 1 = bs.length by omega]
      · rw [if_neg hp1]
        rw [lk_out hp1] at ck
        have c1 : callv 57 [.ref 249, .int 0] (hp S) = some (some (.int (bI false)), hp (fu S 249 18 (nI p))) := c_on false ha
        refine ⟨fu S 249 18 (nI p), BF.f18, ?_, fu_at _ _ _ _⟩
        rw [s60_2]
        simp only [s60_3, s60_4, s60_7, s60_8, s60_9, s60_12, s60_13, s60_16, s60_17, s60_18, s60_21, s60_24, s60_25, s60_26, s60_27, s60_30, s60_31, s60_33, s60_34, s60_36, s60_37, s60_38, s60_41, s60_42, s60_44, s60_45, s60_46, s60_49, s60_50, s60_51, s60_54, s60_55, s60_58, s60_59, s60_62, s60_65, s60_66, q21, g263, hz0, if_neg nz, List.length_cons, List.length_nil, Nat.reduceAdd, Nat.reduceLeDiff, Nat.zero_le, tq, ck, c1, vbind_some, vpush_some, if_bI, vb0]
        rw [if_neg (show ¬ (128 : Int32) ≤ -1 by decide), if_pos (show (-1 : Int32) < 0 by decide), if_neg (by decide)]
theorem c_rdRuns {S : vSt} {p : Nat} (bb : ∀ x ∈ bs, x < 256) (hb5 : bs.length ≤ 500) (he : e < 16) (hz : z ≤ 255) (hL : RLen S) (hT : SqIs S 1 250 640 bs) (hz0 : (S.2 263).getD e 0 = nI z) (ha : S.1 249 18 = nI p) (hp0 : p ≤ bs.length) : ∃ S1, BF e S S1 ∧ match rdRuns bs (z + 1) z p [] with
    | .inl f => callv 60 [.ref 249, .int (nI e)] (hp S) = some (some (.int 0), hp S1) ∧ S1.1 249 18 = nI f
    | .inr (us, p1) => callv 60 [.ref 249, .int (nI e)] (hp S) = some (some (.int 1), hp S1) ∧ S1.1 249 18 = nI p1 ∧ EB S1 e us := by
  have st : callv 60 [.ref 249, .int (nI e)] (hp S) = runv 60 2 [some (.ref 249), some (.int (nI e)), some (.int (nI ([] : List Nat).length)), none, none, none, none, none] [] (hp S) := by
    show runv 60 0 [some (.ref 249), some (.int (nI e)), none, none, none, none, none, none] [] (hp S) = _
    simp only [s60_0, s60_1]
    rfl
  rw [st]
  exact c_rdRuns_loop bb hb5 he hz (z + 1) z p [] S none none none none none (by omega) (by simp) hL hT hz0 ha hp0 (fun j hj => by cases hj)
end REF25
