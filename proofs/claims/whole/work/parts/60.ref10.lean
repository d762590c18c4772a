/-! the reference: store -/
section REF10
variable {S : vSt} {bs : List Nat} {os cs : List Obj} {rf wn hv : List Int32}
theorem w_store0 (h : ModIs S (bs, os, cs, rf, wn, hv)) (k : Int32) (hk : ¬ (¬ k < 1 ∧ k ≤ 3 ∧ bs.length ≤ 24)) : RMeth S 40 [.int k] (-1) (bs, os, cs, rf, wn, hv) := by
  have b5 : bs.length ≤ 500 := h.2.2.1
  have hB : S.1 249 1 = nI bs.length := h.2.1.1
  refine ⟨S, ?_, h, Agr.rf⟩
  show runv 40 0 [some (.ref 249), some (.int k), none, none, none, none, none] [] (hp S) = _
  simp only [s40_0, s40_1, s40_2, s40_3, s40_6, s40_9, s40_10, s40_13, s40_15, s40_18, s40_19, q1, hB, List.length_cons, List.length_nil, Nat.reduceAdd, Nat.reduceLeDiff, Nat.zero_le, c_in, vbind_some, vpush_some, if_bI]
  by_cases h1 : 1 ≤ k ∧ k ≤ 3
  · rw [if_pos (decide_eq_true h1)]
    have h3 : ¬ bs.length ≤ 24 := fun q => hk ⟨Int32.not_lt.mpr h1.1, h1.2, q⟩
    rw [if_neg (show ¬ nI bs.length ≤ 24 from nI_ge (a := 24) (by omega) (by omega))]
  · rw [if_neg (by rw [decide_eq_false h1]; decide)]
theorem c_rnm_loop {o : Obj} {v1 v2 v3 v4 : Option Value} (hL : RLen S) (h : SltIs S 56 o) (hS : SideIs S 0 os) (hu : Uniq os) (hw : wfO o.1 o.2) : ∀ k j, j + k = nmN o.1 o.2.length → ∃ (b : Bool) (j' : Int32), (b = true ↔ allNm os o j) ∧ runv 40 137 [some (.ref 249), v1, v2, v3, v4, some (.int (bI true)), some (.int (nI j))] [] (hp S) = runv 40 178 [some (.ref 249), v1, v2, v3, v4, some (.int (bI b)), some (.int j')] [] (hp S) := by
  have tq := qt (S := S)
  have hlen := h.2.2.2.2.1
  have hn : nmN o.1 o.2.length ≤ 24 := by unfold nmN; split <;> (try split) <;> omega
  have e56 : (56 : Int32) = nI 56 := rfl
  have e0 : (nI 0 : Int32) = 0 := rfl
  intro k
  induction k with
  | zero =>
    intro j hj
    refine ⟨true, nI j, ⟨fun _ q h1 h2 => by omega, fun _ => rfl⟩, ?_⟩
    rw [s40_137]
    simp only [s40_139, s40_142, s40_144, s40_145, s40_147, s40_150, e56, List.length_cons, List.length_nil, Nat.reduceAdd, Nat.reduceLeDiff, Nat.zero_le, tq, c_rnames hL h hw, vbind_some, vpush_some]
    rw [if_neg (show ¬ bI true = 0 by decide), if_pos (nI_le (by omega) (by omega))]
  | succ k ih =>
    intro j hj
    have en := c_rnamed hL h hS hu (show j < nmN o.1 o.2.length by omega)
    rw [e0] at en
    have st : runv 40 137 [some (.ref 249), v1, v2, v3, v4, some (.int (bI true)), some (.int (nI j))] [] (hp S) = if oJ (st0 0) (nmd os o j) < 0 then runv 40 137 [some (.ref 249), v1, v2, v3, v4, some (.int 0), some (.int (nI (j + 1)))] [] (hp S) else runv 40 137 [some (.ref 249), v1, v2, v3, v4, some (.int 1), some (.int (nI (j + 1)))] [] (hp S) := by
      rw [s40_137]
      simp only [s40_139, s40_142, s40_144, s40_145, s40_147, s40_150, s40_153, s40_154, s40_155, s40_157, s40_159, s40_162, s40_165, s40_166, s40_169, s40_170, s40_172, s40_175, e56, List.length_cons, List.length_nil, Nat.reduceAdd, Nat.reduceLeDiff, Nat.zero_le, tq, c_rnames hL h hw, en, vbind_some, vpush_some, nI_1]
      rw [if_neg (show ¬ bI true = 0 by decide), if_neg (nI_ge (by omega) (by omega))]
    rw [st]
    cases hd : nmd os o j with
    | none =>
      rw [if_pos (show oJ (st0 0) none < 0 by decide)]
      refine ⟨false, nI (j + 1), ⟨fun z => (by cases z), fun z => ?_⟩, ?_⟩
      · have := z j (Nat.le_refl _) (by omega)
        rw [hd] at this
        cases this
      · rw [s40_137]
        simp only [s40_139]
        rw [if_pos trivial]
        rfl
    | some q =>
      have hq := nmd_lt hd
      have hle : os.length ≤ 16 := hS.2.2.1
      rw [if_neg (show ¬ oJ (st0 0) (some q) < 0 from nI_pos (by rw [show st0 0 = 0 from rfl]; omega))]
      obtain ⟨b, j', c1, c2⟩ := ih (j + 1) (by omega)
      refine ⟨b, j', ?_, c2⟩
      rw [c1]
      constructor
      · intro z r h1 h2
        by_cases w : r = j
        · subst w; rw [hd]; rfl
        · exact z r (by omega) h2
      · intro z r h1 h2
        exact z r (by omega) h2
theorem w_store (h : ModIs S (bs, os, cs, rf, wn, hv)) (u0 : Uniq os) (hinv : ∀ o ∈ os, wfO o.1 o.2 ∧ allNm os o 0) (hwn : ∀ id ∈ wn, (fIdx os id).isSome = true) {k : Nat} (hk1 : 1 ≤ k) (hk3 : k ≤ 3) (hb : bs.length ≤ 24) : RMeth S 40 [.int (nI k)] (sto bs os k).1 ((sto bs os k).2.1, (sto bs os k).2.2, cs, rf, wn, hv) := by
  have h0 := h
  obtain ⟨h1, h2, h3, h4, h5, h6, h7, h8, h9, h10, h11, h12⟩ := h
  simp only at h2 h3 h4 h5 h6 h7 h8 h9 h10 h11 h12
  have tq := fun S => qt (S := S)
  have hle : os.length ≤ 16 := h5.2.2.1
  have lle : cs.length ≤ 24 := h6.2.2.1
  have e56 : (56 : Int32) = nI 56 := rfl
  have e0 : (nI 0 : Int32) = 0 := rfl
  have l2 := h1.2.2.1
  have l3 := h1.2.2.2.1
  generalize hA : au (au S 252 ((S.2 252).set 56 (nI k))) 253 ((S.2 253).set 56 (nI bs.length)) = A
  have a1 : A.1 = S.1 := by rw [← hA, au_1, au_1]
  have a4 : A.2 254 = S.2 254 := by rw [← hA, au_a _ _ (by omega), au_a _ _ (by omega)]
  have a2 : A.2 252 = (S.2 252).set 56 (nI k) := by rw [← hA, au_a _ _ (by omega), au_at]
  have a3 : A.2 253 = (S.2 253).set 56 (nI bs.length) := by rw [← hA, au_at]
  have a5 : ∀ b, b ≠ 252 → b ≠ 253 → A.2 b = S.2 b := fun b b1 b2 => by rw [← hA, au_a _ _ b2, au_a _ _ b1]
  have aS : au A 254 (S.2 254) = A := au_self a4
  obtain ⟨Y', g1, g2, g3, g4⟩ := c_rfill_loop (S := A) (bs := bs) (v2 := some (.int (nI os.length))) (v4 := none) (v5 := none) (v6 := none) (kk := nI k) (by rw [a1]; exact h2.1) hb (fun j hj => by rw [a5 _ (by omega) (by omega)]; exact h2.get hj) (by rw [a5 _ (by omega) (by omega)]; exact h2.2.1) bs.length 0 (S.2 254) (by omega) h1.2.2.2.2.1
  rw [aS] at g1
  have st0' : callv 40 [.ref 249, .int (nI k)] (hp S) = runv 40 48 [some (.ref 249), some (.int (nI k)), some (.int (nI os.length)), some (.int (nI 0)), none, none, none] [] (hp A) := by
    have ga1 := fun (K : Value → Option (Option Value × vH)) => g251 (S := S) (K := K) h1 (show 0 < 2 by omega)
    have gs2 := fun (x : Int32) (K2 : vH → Option (Option Value × vH)) => gs (S := S) (i := 56) (x := x) (K2 := K2) (a := 252) rfl l2 (by omega) (by omega)
    have gs3 := fun (x : Int32) (K2 : vH → Option (Option Value × vH)) => gs (S := au S 252 ((S.2 252).set 56 (nI k))) (i := 56) (x := x) (K2 := K2) (a := 253) rfl (by rw [au_a _ _ (by omega), l3]) (by omega) (by omega)
    have n253 : (au S 252 ((S.2 252).set 56 (nI k))).2 253 = S.2 253 := au_a _ _ (by omega)
    have n1 : (au S 252 ((S.2 252).set 56 (nI k))).1 249 1 = nI bs.length := h2.1
    rw [e0] at ga1
    simp only [n253] at gs3
    show runv 40 0 [some (.ref 249), some (.int (nI k)), none, none, none, none, none] [] (hp S) = _
    simp only [s40_0, s40_1, s40_2, s40_3, s40_6, s40_9, s40_10, s40_13, s40_15, q1, h2.1, List.length_cons, List.length_nil, Nat.reduceAdd, Nat.reduceLeDiff, Nat.zero_le, c_in, vbind_some, vpush_some, if_bI]
    rw [if_pos (decide_eq_true ⟨show (1 : Int32) ≤ nI k from nI_le (a := 1) hk1 (by omega), show nI k ≤ 3 from nI_le (b := 3) hk3 (by omega)⟩), if_pos (show nI bs.length ≤ 24 from nI_le (b := 24) hb (by omega))]
    simp only [s40_20, s40_21, s40_24, s40_25, s40_26, s40_27, s40_28, s40_31, s40_33, s40_34, s40_35, s40_36, s40_39, s40_41, s40_42, s40_45, s40_46, s40_47, q1, q2, q3, q4, ga1, h5.2.1, e56, gs2, gs3, n1, hA]
    rfl
  generalize hD : au A 254 Y' = D at g1
  have d1 : D.1 = S.1 := by rw [← hD, au_1, a1]
  have d2 : ∀ b, b ≠ 252 → b ≠ 253 → b ≠ 254 → D.2 b = S.2 b := fun b b1 b2 b3 => by rw [← hD, au_a _ _ b3, a5 b b1 b2]
  have dch : SlotCh S D 56 := by
    refine ⟨d1, d2, fun q hq => ⟨?_, ?_⟩, fun q hq => ?_⟩
    · rw [← hD, au_a _ _ (by omega), a2, getD_set_ne (fun z => hq z.symm)]
    · rw [← hD, au_a _ _ (by omega), a3, getD_set_ne (fun z => hq z.symm)]
    · rw [← hD, au_at]
      by_cases w : q < 1344
      · exact g3 q (by omega)
      · have w2 : 1368 ≤ q := by omega
        rw [List.getD_eq_getElem?_getD, List.getD_eq_getElem?_getD, List.getElem?_eq_none (by omega), List.getElem?_eq_none (by rw [h1.2.2.2.2.1]; omega)]
  have hsl : SltIs D 56 (k, bs) := by
    refine ⟨by omega, ?_, ?_, fun j hj => ?_, hb, h4, hk1, hk3⟩
    · rw [← hD, au_a _ _ (by omega), a2, getD_set_self (by omega)]
    · rw [← hD, au_a _ _ (by omega), a3, getD_set_self (by omega)]
    · rw [← hD, au_at]; exact g4 j (by omega) hj
  have hLD : RLen D := by
    have e1 : RLen A := by
      rw [← hA]
      refine rl_au (rl_au h1 (by rw [List.length_set])) ?_
      rw [List.length_set, au_a _ _ (by omega)]
    rw [← hD]
    exact rl_au e1 (by rw [g2, a4, h1.2.2.2.2.1])
  have side : ∀ {T : vSt} {n : Nat} {l : List Obj} {t : Nat}, SideIs T n l → ∀ {T1 : vSt}, SlotCh T T1 t → (∀ i, i < l.length → st0 n + i ≠ t) → SideIs T1 n l := by
    intro T n l t hs T1 hc hne
    exact ⟨hs.1, by rw [hc.2.1 251 (by omega) (by omega) (by omega), hs.2.1], hs.2.2.1, fun i o ho => (hs.2.2.2 i o ho).ch hc (hne i (List.getElem?_eq_some_iff.mp ho).1)⟩
  have s0 : SideIs D 0 os := side h5 dch (fun i hi => by rw [show st0 0 = 0 from rfl]; omega)
  have s1 : SideIs D 1 cs := side h6 dch (fun i hi => by rw [show st0 1 = 16 from rfl]; omega)
  have dn1 : ∀ b j, D.1 b j = S.1 b j := fun b j => by rw [d1]
  have hMD : ModIs D (bs, os, cs, rf, wn, hv) := ⟨hLD, ⟨by rw [dn1]; exact h2.1, by rw [d2 _ (by omega) (by omega) (by omega)]; exact h2.2.1, by rw [d2 _ (by omega) (by omega) (by omega)]; exact h2.2.2.1, h2.2.2.2⟩, h3, h4, s0, s1, by rw [d2 _ (by omega) (by omega) (by omega)]; exact h7, fun i hi => by rw [d2 _ (by omega) (by omega) (by omega)]; exact h8 i hi, by rw [dn1]; exact h9, by rw [dn1]; exact h10, h11, by rw [d2 _ (by omega) (by omega) (by omega)]; exact h12⟩
  have agD : Agr S D 0 249 := fun b q1 q2 => ⟨fun j => dn1 b j, d2 b (by omega) (by omega) (by omega)⟩
  have hid := oid_lt k bs
  have ei := c_idOf hLD hsl
  simp only at ei
  have ef := c_rfind hLD s0 u0 (nI (oid k bs))
  rw [e0] at ef
  obtain ⟨wb, w1, w2⟩ := c_rwell hLD hsl
  simp only at w1
  have bad : ∀ (b : Bool) (v4 : Option Value) (j' : Int32), b = false → runv 40 178 [some (.ref 249), some (.int (nI k)), some (.int (nI os.length)), some (.int (nI (oid k bs))), v4, some (.int (bI b)), some (.int j')] [] (hp D) = some (some (.int (-1)), hp D) := by
    intro b v4 j' hb2
    subst hb2
    simp only [s40_178, s40_180, s40_183, s40_184]
    rw [if_pos (show bI false = 0 from rfl)]
  have badz : ∀ (v4 : Option Value), runv 40 137 [some (.ref 249), some (.int (nI k)), some (.int (nI os.length)), some (.int (nI (oid k bs))), v4, some (.int 0), some (.int (nI 0))] [] (hp D) = some (some (.int (-1)), hp D) := by
    intro v4
    rw [s40_137]
    simp only [s40_139]
    rw [if_pos trivial]
    exact bad false v4 (nI 0) rfl
  have start : callv 40 [.ref 249, .int (nI k)] (hp S) = if wb = true then (if 0 ≤ oJ (st0 0) (fIdx os (nI (oid k bs))) then runv 40 116 [some (.ref 249), some (.int (nI k)), some (.int (nI os.length)), some (.int (nI (oid k bs))), some (.int (oJ (st0 0) (fIdx os (nI (oid k bs))))), none, none] [] (hp D) else (if (16 : Int32) ≤ nI os.length then some (some (.int (-1)), hp D) else runv 40 137 [some (.ref 249), some (.int (nI k)), some (.int (nI os.length)), some (.int (nI (oid k bs))), some (.int (oJ (st0 0) (fIdx os (nI (oid k bs))))), some (.int 1), some (.int (nI 0))] [] (hp D))) else some (some (.int (-1)), hp D) := by
    rw [st0', g1]
    have bz := fun v4 => badz v4
    rw [e0] at bz
    simp only [s40_78, s40_79, s40_81, s40_84, s40_85, s40_86, s40_87, s40_88, s40_91, s40_93, s40_94, s40_96, s40_99, s40_102, s40_104, s40_107, s40_108, s40_110, s40_113, s40_127, s40_128, s40_131, s40_132, s40_134, s40_135, e56, List.length_cons, List.length_nil, Nat.reduceAdd, Nat.reduceLeDiff, Nat.zero_le, tq, ei, ef, w2, vbind_some, vpush_some, if_bI, bz]
    rfl
  unfold sto
  cases hf : fIdx os (nI (oid k bs)) with
  | some j =>
    have hj := fIdx_lt hf
    have hslj : SltIs D j os[j] := by
      have := s0.2.2.2 j _ (List.getElem?_eq_getElem hj)
      rwa [show st0 0 = 0 from rfl, Nat.zero_add] at this
    have ej : oJ (st0 0) (some j) = nI j := by
      show nI (st0 0 + j) = nI j
      rw [show st0 0 = 0 from rfl, Nat.zero_add]
    rw [hf, ej, if_pos (nI_pos' (show j < 2 ^ 31 by omega))] at start
    have es := c_rsame hLD hslj hsl
    have st2 : runv 40 116 [some (.ref 249), some (.int (nI k)), some (.int (nI os.length)), some (.int (nI (oid k bs))), some (.int (nI j)), none, none] [] (hp D) = if decide (os[j] = (k, bs)) = true then runv 40 137 [some (.ref 249), some (.int (nI k)), some (.int (nI os.length)), some (.int (nI (oid k bs))), some (.int (nI j)), some (.int 1), some (.int (nI 0))] [] (hp D) else some (some (.int (-1)), hp D) := by
      have bz := fun v4 => badz v4
      rw [e0] at bz
      simp only [s40_116, s40_117, s40_119, s40_121, s40_124, s40_127, s40_128, s40_131, s40_132, s40_134, s40_135, e56, List.length_cons, List.length_nil, Nat.reduceAdd, Nat.reduceLeDiff, Nat.zero_le, tq, es, vbind_some, vpush_some, if_bI, bz]
      rfl
    simp only [List.getElem?_eq_getElem hj]
    by_cases q : os[j] = (k, bs)
    · rw [if_pos (congrArg some q)]
      have hmem : (k, bs) ∈ os := by rw [← q]; exact List.getElem_mem hj
      have hi := hinv _ hmem
      rw [if_pos (w1.mpr hi.1), st2, if_pos (decide_eq_true q)] at start
      obtain ⟨b, j', c1, c2⟩ := c_rnm_loop (v1 := some (.int (nI k))) (v2 := some (.int (nI os.length))) (v3 := some (.int (nI (oid k bs)))) (v4 := some (.int (nI j))) hLD hsl s0 u0 hi.1 (nmN k bs.length) 0 (by simp)
      have hbt : b = true := c1.mpr hi.2
      subst hbt
      have c2' : runv 40 137 [some (.ref 249), some (.int (nI k)), some (.int (nI os.length)), some (.int (nI (oid k bs))), some (.int (nI j)), some (.int 1), some (.int (nI 0))] [] (hp D) = _ := c2
      have hBD : BufIs D bs := hMD.2.1
      have ez : fu D 249 1 0 = rowSet D 249 250 [] := by
        have := buf_cut hBD (x := 0) (by omega)
        rw [List.take_zero] at this
        exact this
      rw [c2'] at start
      simp only [s40_178, s40_180, s40_183, s40_184, s40_185, s40_187, s40_206, s40_207, s40_208, s40_211, s40_212, q1p, ez] at start
      rw [if_neg (show ¬ bI true = 0 by decide), if_pos (nI_pos' (show j < 2 ^ 31 by omega))] at start
      have := hMD.buf (ds := []) (by simp) (by simp)
      exact ⟨_, start, this.1, agD.tr this.2⟩
    · rw [if_neg (fun z => q (Option.some.inj z))]
      by_cases w : wb = true
      · rw [if_pos w, st2, if_neg (by rw [decide_eq_false q]; decide)] at start
        exact ⟨D, start, hMD, agD⟩
      · rw [if_neg w] at start
        exact ⟨D, start, hMD, agD⟩
  | none =>
    simp only
    rw [hf, if_neg (show ¬ 0 ≤ oJ (st0 0) none by decide)] at start
    by_cases qw : wfO k bs
    · rw [if_pos (w1.mpr qw)] at start
      by_cases q1' : os.length < 16
      · rw [if_neg (show ¬ (16 : Int32) ≤ nI os.length from nI_ge (b := 16) q1' (by omega))] at start
        obtain ⟨b, j', c1, c2⟩ := c_rnm_loop (v1 := some (.int (nI k))) (v2 := some (.int (nI os.length))) (v3 := some (.int (nI (oid k bs)))) (v4 := some (.int (oJ (st0 0) none))) hLD hsl s0 u0 qw (nmN k bs.length) 0 (by simp)
        have c2' : runv 40 137 [some (.ref 249), some (.int (nI k)), some (.int (nI os.length)), some (.int (nI (oid k bs))), some (.int (oJ (st0 0) none)), some (.int 1), some (.int (nI 0))] [] (hp D) = _ := c2
        rw [c2'] at start
        by_cases q3' : allNm os (k, bs) 0
        · rw [if_pos ⟨q1', qw, q3'⟩]
          have hbt : b = true := c1.mpr q3'
          subst hbt
          obtain ⟨E, r1, r2, r3⟩ := c_rcopy hLD hsl (t := os.length) (by omega) (by omega)
          have hLE : RLen E := hLD.keep r1
          have l251 := hLE.2.1
          have en1 : ∀ b j, E.1 b j = S.1 b j := fun b j => by rw [r3.1, d1]
          have en2 : ∀ b, b ≠ 252 → b ≠ 253 → b ≠ 254 → E.2 b = S.2 b := fun b b1 b2 b3 => by rw [r3.2.1 b b1 b2 b3, d2 b b1 b2 b3]
          have gs1 := fun (x : Int32) (K2 : vH → Option (Option Value × vH)) => gs (S := E) (i := 0) (x := x) (K2 := K2) (a := 251) rfl l251 (by omega) (by omega)
          rw [e0] at gs1
          generalize hG : au E 251 ((E.2 251).set 0 (nI (os.length + 1))) = G
          have gn1 : ∀ b j, G.1 b j = S.1 b j := fun b j => by rw [← hG, au_1, en1]
          have gn2 : ∀ b, b ≠ 251 → G.2 b = E.2 b := fun b hb => by rw [← hG, au_a _ _ hb]
          have gn3 : ∀ b, b ≠ 251 → b ≠ 252 → b ≠ 253 → b ≠ 254 → G.2 b = S.2 b := fun b b0 b1 b2 b3 => by rw [gn2 b b0, en2 b b1 b2 b3]
          have hE0 : SideIs E 0 os := side s0 r3 (fun i hi => by rw [show st0 0 = 0 from rfl]; omega)
          have hE1 : SideIs E 1 cs := side s1 r3 (fun i hi => by rw [show st0 1 = 16 from rfl]; omega)
          have sltG : ∀ {q : Nat} {o : Obj}, SltIs E q o → SltIs G q o := fun hs => hs.of (gn2 _ (by omega)) (gn2 _ (by omega)) (gn2 _ (by omega))
          have hMG : ModIs G (bs, os ++ [(k, bs)], cs, rf, wn, hv) := by
            refine ⟨?_, ⟨by rw [gn1]; exact h2.1, by rw [gn3 _ (by omega) (by omega) (by omega) (by omega)]; exact h2.2.1, by rw [gn3 _ (by omega) (by omega) (by omega) (by omega)]; exact h2.2.2.1, h2.2.2.2⟩, h3, h4, ⟨by omega, ?_, ?_, ?_⟩, ⟨by omega, ?_, lle, fun i o ho => sltG (hE1.2.2.2 i o ho)⟩, by rw [gn3 _ (by omega) (by omega) (by omega) (by omega)]; exact h7, fun i hi => ?_, by rw [gn1]; exact h9, by rw [gn1]; exact h10, h11, by rw [gn3 _ (by omega) (by omega) (by omega) (by omega)]; exact h12⟩
            · rw [← hG]; exact rl_au hLE (by rw [List.length_set])
            · rw [← hG, au_at, getD_set_self (by omega), List.length_append, List.length_singleton]
            · show (os ++ [(k, bs)]).length ≤ 16
              rw [List.length_append, List.length_singleton]; omega
            · intro i o ho
              by_cases w : i < os.length
              · rw [List.getElem?_append_left w] at ho
                exact sltG (hE0.2.2.2 i o ho)
              · have hil : i < (os ++ [(k, bs)]).length := (List.getElem?_eq_some_iff.mp ho).1
                rw [List.length_append, List.length_singleton] at hil
                have : i = os.length := by omega
                subst this
                rw [List.getElem?_append_right (Nat.le_refl _), Nat.sub_self] at ho
                cases ho
                rw [show st0 0 + os.length = os.length by rw [show st0 0 = 0 from rfl, Nat.zero_add]]
                exact sltG r2
            · rw [← hG, au_at, getD_set_ne (by omega)]; exact hE1.2.1
            · rw [gn3 _ (by omega) (by omega) (by omega) (by omega), h8 i hi]
              congr 1
              unfold wMk
              by_cases w : i < os.length
              · rw [List.getElem?_append_left w]
              · rw [List.getElem?_eq_none (show os.length ≤ i by omega)]
                by_cases w2 : i = os.length
                · subst w2
                  rw [List.getElem?_append_right (Nat.le_refl _), Nat.sub_self]
                  simp only [List.getElem?_cons_zero]
                  rw [decide_eq_false]
                  intro z
                  have := hwn _ z
                  rw [hf] at this
                  cases this
                · rw [List.getElem?_eq_none (by rw [List.length_append, List.length_singleton]; omega)]
          have hBG : BufIs G bs := hMG.2.1
          have ez : fu G 249 1 0 = rowSet G 249 250 [] := by
            have := buf_cut hBG (x := 0) (by omega)
            rw [List.take_zero] at this
            exact this
          simp only [s40_178, s40_180, s40_183, s40_184, s40_185, s40_187, s40_190, s40_191, s40_193, s40_194, s40_197, s40_198, s40_201, s40_202, s40_203, s40_204, s40_205, s40_206, s40_207, s40_208, s40_211, s40_212, e56, q2, q1p, List.length_cons, List.length_nil, Nat.reduceAdd, Nat.reduceLeDiff, Nat.zero_le, tq, r1, vbind_some, vpush_none, nI_1, gs1, hG, ez] at start
          rw [if_neg (show ¬ bI true = 0 by decide), if_neg (show ¬ 0 ≤ oJ (st0 0) none by decide)] at start
          have := hMG.buf (ds := []) (by simp) (by simp)
          have agG : Agr S G 0 249 := fun b z1 z2 => ⟨fun j => gn1 b j, gn3 b (by omega) (by omega) (by omega) (by omega)⟩
          exact ⟨_, start, this.1, agG.tr this.2⟩
        · rw [if_neg (fun z => q3' z.2.2)]
          have hbf : b = false := by
            cases b with
            | false => rfl
            | true => exact absurd (c1.mp rfl) q3'
          rw [bad b _ _ hbf] at start
          exact ⟨D, start, hMD, agD⟩
      · rw [if_pos (show (16 : Int32) ≤ nI os.length from nI_le (a := 16) (by omega) (by omega))] at start
        rw [if_neg (fun z => q1' z.1)]
        exact ⟨D, start, hMD, agD⟩
    · rw [if_neg (fun z => qw (w1.mp z))] at start
      rw [if_neg (fun z => qw z.2.1)]
      exact ⟨D, start, hMD, agD⟩
end REF10
