/-! the reference: serve, the whole -/
theorem e100 (S : vSt) (K2 : vH → Option (Option Value × vH)) : vpf (hp S) 249 9 10 (.int 0) K2 = K2 (hp (fu S 249 10 (bI false))) := q10p (b := false)
theorem c_clr_loop {S : vSt} {v2 v3 v4 : Option Value} : ∀ k i, i + k = 16 → ∀ l : List Int32, l.length = 16 → (∀ j, j < i → l.getD j 0 = 0) → ∃ l' v1, runv 55 34 [some (.ref 249), some (.int (nI i)), v2, v3, v4] [] (hp (au S 257 l)) = runv 55 53 [some (.ref 249), v1, v2, v3, v4] [] (hp (au S 257 l')) ∧ l'.length = 16 ∧ ∀ j, j < 16 → l'.getD j 0 = 0 := by
  intro k
  induction k with
  | zero =>
    intro i hi l h1 h2
    refine ⟨l, some (.int (nI i)), ?_, h1, fun j hj => h2 j (by omega)⟩
    rw [s55_34]
    simp only [s55_35, s55_37]
    rw [if_pos (show (16 : Int32) ≤ nI i from nI_le (a := 16) (by omega) (by omega))]
  | succ k ih =>
    intro i hi l h1 h2
    obtain ⟨l', v1, g1, g2⟩ := ih (i + 1) (by omega) (l.set i 0) (by rw [List.length_set, h1]) (fun j hj => by
      by_cases q : j = i
      · subst q; exact getD_set_self (by omega)
      · rw [getD_set_ne (fun z => q z.symm)]; exact h2 j (by omega))
    refine ⟨l', v1, ?_, g2⟩
    rw [← g1, s55_34]
    simp only [s55_35, s55_37, s55_40, s55_41, s55_44, s55_45, s55_46, s55_47, s55_50, q9, vb0, gbs (S := au S 257 l) (x := 0) rfl (show ((au S 257 l).2 257).length = 16 by rw [au_at]; exact h1) (show i < 16 by omega) (by omega), nI_1, au_at, au_au]
    rw [if_neg (show ¬ (16 : Int32) ≤ nI i from nI_ge (b := 16) (by omega) (by omega))]
theorem good_of {os : List Obj} (h : ∀ o ∈ os, allNm os o 0) : Good os := by
  intro k hk
  obtain ⟨h1, i, h2, h3⟩ := hk
  have e : oAt os k = os[k] := by unfold oAt; rw [List.getD_eq_getElem?_getD, List.getElem?_eq_getElem h1]; rfl
  rw [e] at h2 h3
  have := h os[k] (List.getElem_mem h1) i (Nat.zero_le _) h2
  rw [h3] at this
  cases this
section REF22
variable {S : vSt} {bs : List Nat} {os cs : List Obj} {rf wn hv : List Int32}
theorem w_serve0 (h : ModIs S (bs, os, cs, rf, [], hv)) : RMeth S 55 [] (-1) (bs, os, cs, rf, [], hv) := by
  have h9 : S.1 249 10 = bI false := h.2.2.2.2.2.2.2.2.1
  refine ⟨S, ?_, h, Agr.rf⟩
  show runv 55 0 [some (.ref 249), none, none, none, none] [] (hp S) = _
  simp only [s55_0, s55_1, s55_4, s55_7, s55_8, q10, h9, if_bI]
  rw [if_neg (by decide)]
theorem SideIs.ok {s : Nat} (h : SideIs S s os) : OsOk os := by
  intro o ho
  obtain ⟨i, hi, rfl⟩ := List.getElem_of_mem ho
  have := h.2.2.2 i _ (List.getElem?_eq_getElem hi)
  exact ⟨this.2.2.2.2.1, this.2.2.2.2.2.1, this.2.2.2.2.2.2.2⟩
theorem w_serve (h : ModIs S (bs, os, cs, rf, wn, hv)) (hu : Uniq os) (hw : ∀ o ∈ os, wfO o.1 o.2 ∧ allNm os o 0) (hne : wn ≠ []) : RMeth S 55 [] (nI (srvP os wn hv).length) (srvB os (srvP os wn hv), os, cs, rf, [], []) := by
  have h0 := h
  obtain ⟨h1, h2, h3, h4, h5, h6, h7, h8, h9, h10, h11, h12⟩ := h
  simp only at h2 h3 h4 h5 h6 h7 h8 h9 h10 h11 h12
  rw [decide_eq_true hne] at h9
  have hc := h5.2.2.1
  have hc0 : cap0 0 = 16 := rfl
  have hos := h5.ok
  obtain ⟨S1, a1, a2, a3⟩ := c_select h0 hu (fun o ho => (hw o ho).1)
  obtain ⟨S2, b1, b2, b3⟩ := c_choose (ws := inclL os 24 wn []) (hs := inclL os 16 hv []) (fun p hp0 => selF_spec (by omega) hu (good_of (fun o ho => (hw o ho).2)) hp0) (a3.len h1) (a3.side h5) a2
  have hall := pkAll_ok os (inclL os 24 wn []) (inclL os 16 hv [])
  have hpk : pkAll os (inclL os 24 wn []) (inclL os 16 hv []) = srvP os wn hv := rfl
  rw [hpk] at b2 b3 hall
  have h16 := b2.2.2.2
  -- what has stayed up to the clearing
  have l1 : ∀ b, (S1.2 b).length = (S.2 b).length := fun b => by
    by_cases q : b = 255
    · subst q; exact a3.2.2
    · rw [a3.2.1 b q]
  have l2 : ∀ b, (S2.2 b).length = (S.2 b).length := fun b => by
    rw [b3, sq_len (by rw [fu_2, l1, h1.2.2.2.2.2.2.2.2.2.1]; exact h16), fu_2, l1]
  have n2 : ∀ b, b ≠ 255 → b ≠ 259 → S2.2 b = S.2 b := fun b q r => by rw [b3, sq_2 r, fu_2, a3.2.1 b q]
  have f2 : ∀ b j, ¬ (b = 249 ∧ (j = 7 ∨ j = 13)) → S2.1 b j = S.1 b j := fun b j q => by
    rw [b3, sq_1 (fun z => q ⟨z.1, Or.inr z.2⟩)]
    by_cases e : b = 249
    · rw [fu_k _ _ (fun z => q ⟨e, Or.inr z⟩)]
      exact a3.1 b j (fun z => q ⟨z.1, Or.inl z.2⟩)
    · rw [fu_a _ _ e]
      exact a3.1 b j (fun z => e z.1)
  -- the clearing
  let S3 := fu (fu (fu S2 249 1 (nI 0)) 249 11 (nI 0)) 249 10 (bI false)
  have n3 : ∀ b, S3.2 b = S2.2 b := fun _ => rfl
  have l257 : (S3.2 257).length = 16 := by rw [n3, l2]; exact h1.2.2.2.2.2.2.2.1
  obtain ⟨l', v1, c1, c2, c3⟩ := c_clr_loop (S := S3) (v2 := none) (v3 := none) (v4 := none) 16 0 (by omega) (S3.2 257) l257 (fun j hj => by omega)
  rw [au_self rfl] at c1
  have st : callv 55 [.ref 249] (hp S) = runv 55 53 [some (.ref 249), v1, none, none, none] [] (hp (au S3 257 l')) := by
    rw [← c1]
    have tq := qt (S := S)
    have tq1 := qt (S := S1)
    have e1 : ∀ (T : vSt) (K2 : vH → Option (Option Value × vH)), vpf (hp T) 249 9 1 (.int 0) K2 = K2 (hp (fu T 249 1 (nI 0))) := fun T K2 => q1p
    have e11 : ∀ (T : vSt) (K2 : vH → Option (Option Value × vH)), vpf (hp T) 249 9 11 (.int 0) K2 = K2 (hp (fu T 249 11 (nI 0))) := fun T K2 => q11p
    show runv 55 0 [some (.ref 249), none, none, none, none] [] (hp S) = _
    simp only [s55_0, s55_1, s55_4, s55_7, s55_8, s55_9, s55_10, s55_13, s55_14, s55_17, s55_18, s55_19, s55_22, s55_23, s55_24, s55_27, s55_28, s55_29, s55_32, s55_33, q10, h9, if_bI, List.length_cons, List.length_nil, Nat.reduceAdd, Nat.reduceLeDiff, Nat.zero_le, tq, tq1, a1, b1, vbind_some, vpush_none, e1, e11, e100]
    rw [if_pos trivial]
    rfl
  let S4 := au S3 257 l'
  have f4 : ∀ b j, ¬ (b = 249 ∧ (j = 1 ∨ j = 10 ∨ j = 11)) → S4.1 b j = S2.1 b j := fun b j q => by
    show (fu (fu (fu S2 249 1 (nI 0)) 249 11 (nI 0)) 249 10 (bI false)).1 b j = S2.1 b j
    by_cases e : b = 249
    · rw [fu_k _ _ (fun z => q ⟨e, Or.inr (Or.inl z)⟩), fu_k _ _ (fun z => q ⟨e, Or.inr (Or.inr z)⟩), fu_k _ _ (fun z => q ⟨e, Or.inl z⟩)]
    · rw [fu_a _ _ e, fu_a _ _ e, fu_a _ _ e]
  have n4 : ∀ b, b ≠ 257 → S4.2 b = S2.2 b := fun b q => au_a _ _ q
  have l4 : ∀ b, (S4.2 b).length = (S.2 b).length := fun b => by
    by_cases q : b = 257
    · subst q
      show ((au S3 257 l').2 257).length = _
      rw [au_at, c2]
      exact h1.2.2.2.2.2.2.2.1.symm
    · rw [n4 b q, l2]
  have L4 : RLen S4 := h1.of l4
  have side4 : ∀ {s : Nat} {l : List Obj}, SideIs S s l → SideIs S4 s l := fun hS => hS.of (by rw [n4 _ (by omega), n2 _ (by omega) (by omega)]) (by rw [n4 _ (by omega), n2 _ (by omega) (by omega)]) (by rw [n4 _ (by omega), n2 _ (by omega) (by omega)]) (by rw [n4 _ (by omega), n2 _ (by omega) (by omega)])
  have P4 : SqIs S4 13 259 16 (srvP os wn hv) := ⟨by rw [f4 _ _ (by omega)]; exact b2.1, by rw [n4 _ (by omega)]; exact b2.2.1, by rw [n4 _ (by omega)]; exact b2.2.2.1, b2.2.2.2⟩
  have T4 : SqIs S4 1 250 640 [] := by
    refine ⟨?_, L4.1, rfl, by simp⟩
    show (fu (fu (fu S2 249 1 (nI 0)) 249 11 (nI 0)) 249 10 (bI false)).1 249 1 = nI 0
    rw [fu_k _ _ (by omega), fu_k _ _ (by omega), fu_at]
  have f10 : S4.1 249 10 = bI false := fu_at (fu (fu S2 249 1 (nI 0)) 249 11 (nI 0)) 249 10 (bI false)
  have f11 : S4.1 249 11 = nI 0 := by
    show (fu (fu (fu S2 249 1 (nI 0)) 249 11 (nI 0)) 249 10 (bI false)).1 249 11 = nI 0
    rw [fu_k _ _ (by omega), fu_at]
  have g257 : S4.2 257 = l' := au_at S3 257 l'
  have modF : ∀ (S5 : vSt) (ds : List Nat), MFr S4 S5 → SqIs S5 1 250 640 ds → ds.length ≤ 500 → (∀ x ∈ ds, x < 256) → ModIs S5 (ds, os, cs, rf, [], []) ∧ Agr S S5 0 249 := by
    intro S5 ds hF hT hl hb
    refine ⟨⟨hF.len L4, hT, hl, hb, hF.side (side4 h5), hF.side (side4 h6), ?_, ?_, ?_, ?_, by simp, rfl⟩, ?_⟩
    · rw [hF.2.1 _ (by omega) (by omega) (by omega), n4 _ (by omega), n2 _ (by omega) (by omega)]
      exact h7
    · intro i hi
      rw [hF.2.1 _ (by omega) (by omega) (by omega), g257, c3 i hi]
      have : wMk os [] i = false := by unfold wMk; split <;> simp
      show 0 = bI (wMk os [] i)
      rw [this]
      rfl
    · rw [hF.1 _ _ (by omega)]
      exact f10
    · rw [hF.1 _ _ (by omega)]
      exact f11
    · intro b hb1 hb2
      refine ⟨fun j => ?_, ?_⟩
      · rw [hF.1 _ _ (by omega), f4 _ _ (by omega), f2 _ _ (by omega)]
      · rw [hF.2.1 _ (by omega) (by omega) (by omega), n4 _ (by omega), n2 _ (by omega) (by omega)]
  rw [RMeth]
  simp only [st]
  have m0 : (nI (srvP os wn hv).length = 0) = ((srvP os wn hv).length = 0) := nI_inj (b := 0) (by omega) (by omega)
  by_cases hz : (srvP os wn hv).length = 0
  · have e : srvB os (srvP os wn hv) = [] := by unfold srvB; rw [if_pos hz]
    rw [e]
    obtain ⟨g1, g2⟩ := modF S4 [] MFr.rf T4 (by simp) (by simp)
    refine ⟨S4, ?_, g1, g2⟩
    show runv 55 53 [some (.ref 249), v1, none, none, none] [] (hp S4) = _
    simp only [s55_53, s55_54, s55_57, s55_60, s55_61, q13, P4.1, m0]
    rw [if_pos hz, hz]
    rfl
  · have e : srvB os (srvP os wn hv) = packOut os (srvP os wn hv) := by unfold srvB; rw [if_neg hz]
    rw [e]
    have w1 := c_wr1 (x := 80) T4 (by simp)
    rw [List.nil_append] at w1
    have T5 := T4.set (cs := [80]) (by simp)
    have F5 : WFr S4 _ := (Ch.sq (S := S4) (k := 1) (a := 250) (bs := [80]) (by rw [T4.2.1]; simp)).wb
    have w2 := c_wr1 (x := 1) T5 (by simp)
    have T6 := T5.set (cs := [80] ++ [1]) (by simp)
    have F6 := F5.tr (Ch.sq (k := 1) (a := 250) (bs := [80] ++ [1]) (by rw [T5.2.1]; simp)).wb
    have w3 := c_wr1 (x := (srvP os wn hv).length) T6 (by simp)
    have T7 := T6.set (cs := [80] ++ [1] ++ [(srvP os wn hv).length]) (by simp)
    have F7 := F6.tr (Ch.sq (k := 1) (a := 250) (bs := [80] ++ [1] ++ [(srvP os wn hv).length]) (by rw [T6.2.1]; simp)).wb
    have F6m := F6.m
    have P6 := F6m.seq (by omega) (by omega) P4
    have V7 : SrvIs _ os (srvP os wn hv) [] ([80] ++ [1] ++ [(srvP os wn hv).length]) := ⟨F7.len L4, F7.side (side4 h5), F7.seq (by omega) (by omega) P4, hall.2, ⟨by rw [F7.2.2, l4]; exact h1.2.2.2.2.2.2.2.2.2.2.1, rfl, by simp⟩, T7⟩
    obtain ⟨S8, x1, x2, x3, x4, k1, k2, k3⟩ := c_srv_loop hos (srvP os wn hv).length [] _ _ none none none (by simp) V7 (fun x hx => by cases hx) (by simp only [List.length_append, List.length_singleton]; omega)
    have F8 := F7.m.tr k3
    have ok := wrF_ok hos (srvP os wn hv) (srvP os wn hv).length [] [80, 1, (srvP os wn hv).length] (by
      intro x hx
      simp only [List.mem_cons, List.not_mem_nil, or_false] at hx
      omega) (by simp only [List.length_cons, List.length_nil]; omega)
    have k2' : SqIs S8 1 250 640 (packOb os (srvP os wn hv)) := k2
    have okb : (∀ x ∈ packOb os (srvP os wn hv), x < 256) ∧ (packOb os (srvP os wn hv)).length ≤ 3 + 27 * (srvP os wn hv).length := ok
    have hlt := hashN_lt (h := 7) (packOb os (srvP os wn hv)) (by omega)
    have y1 := c_hashTo k2' okb.1 (n := (packOb os (srvP os wn hv)).length) (Nat.le_refl _)
    rw [List.take_of_length_le (Nat.le_refl _)] at y1
    have w4 := c_wr1 (x := hashN 7 (packOb os (srvP os wn hv)) / 256) k2' (by omega)
    have T9 := k2'.set (cs := packOb os (srvP os wn hv) ++ [hashN 7 (packOb os (srvP os wn hv)) / 256]) (by simp only [List.length_append, List.length_singleton]; omega)
    have F9 : WFr S8 _ := (Ch.sq (S := S8) (k := 1) (a := 250) (bs := packOb os (srvP os wn hv) ++ [hashN 7 (packOb os (srvP os wn hv)) / 256]) (by rw [k2'.2.1]; simp only [List.length_append, List.length_singleton]; omega)).wb
    have w5 := c_wr1 (x := hashN 7 (packOb os (srvP os wn hv)) % 256) T9 (by simp only [List.length_append, List.length_singleton]; omega)
    have T10 := T9.set (cs := packOb os (srvP os wn hv) ++ [hashN 7 (packOb os (srvP os wn hv)) / 256] ++ [hashN 7 (packOb os (srvP os wn hv)) % 256]) (by simp only [List.length_append, List.length_singleton]; omega)
    have F10 := F9.tr (Ch.sq (k := 1) (a := 250) (bs := packOb os (srvP os wn hv) ++ [hashN 7 (packOb os (srvP os wn hv)) / 256] ++ [hashN 7 (packOb os (srvP os wn hv)) % 256]) (by rw [T9.2.1]; simp only [List.length_append, List.length_singleton]; omega)).wb
    have eout : packOb os (srvP os wn hv) ++ [hashN 7 (packOb os (srvP os wn hv)) / 256] ++ [hashN 7 (packOb os (srvP os wn hv)) % 256] = packOut os (srvP os wn hv) := by unfold packOut; rw [List.append_assoc]; rfl
    have FZ := F8.tr F10.m
    have PZ := FZ.seq (by omega) (by omega) P4
    rw [eout] at T10 PZ FZ w5
    obtain ⟨g1, g2⟩ := modF _ _ FZ T10 (by unfold packOut; simp only [List.length_append, List.length_cons, List.length_nil]; omega) (by
      intro x hx
      unfold packOut at hx
      rcases List.mem_append.mp hx with q | q
      · exact okb.1 x q
      · simp only [List.mem_cons, List.not_mem_nil, or_false] at q
        omega)
    refine ⟨_, ?_, g1, g2⟩
    have tq4 := qt (S := S4)
    have tq5 := qt (S := sqSet S4 1 250 [80])
    have tq6 := qt (S := sqSet (sqSet S4 1 250 [80]) 1 250 ([80] ++ [1]))
    have tq8 := qt (S := S8)
    have tq9 := qt (S := sqSet S8 1 250 (packOb os (srvP os wn hv) ++ [hashN 7 (packOb os (srvP os wn hv)) / 256]))
    have e80 : (80 : Int32) = nI 80 := rfl
    have z80 : (nI 80 : Int32) = 80 := rfl
    have z1 : (nI 1 : Int32) = 1 := rfl
    have z0 : (nI 0 : Int32) = 0 := rfl
    rw [z80] at w1
    rw [z1] at w2
    have e0 : ¬ (256 : Int32) = 0 := by decide
    have m2 : nI (hashN 7 (packOb os (srvP os wn hv))) / 256 = nI (hashN 7 (packOb os (srvP os wn hv)) / 256) := pk_div (d := 256) (by omega) (by omega) (by omega)
    have m3 : nI (hashN 7 (packOb os (srvP os wn hv))) - nI (hashN 7 (packOb os (srvP os wn hv)) / 256) * 256 = nI (hashN 7 (packOb os (srvP os wn hv)) % 256) := by
      rw [← m2]
      exact pk_rem (d := 256) (by omega) (by omega) (by omega)
    rw [show ([] : List Nat).length = 0 from rfl, z0] at k1
    show runv 55 53 [some (.ref 249), v1, none, none, none] [] (hp S4) = _
    simp only [s55_53, s55_54, s55_57, s55_60, s55_61, s55_62, s55_63, s55_65, s55_68, s55_69, s55_70, s55_73, s55_74, s55_75, s55_78, s55_81, s55_82, q13, P4.1, P6.1, m0, List.length_cons, List.length_nil, Nat.reduceAdd, Nat.reduceLeDiff, Nat.zero_le, tq4, tq5, tq6, w1, w2, w3, vbind_some, vpush_none]
    rw [if_neg hz, k1]
    simp only [s55_227, s55_228, s55_229, s55_232, s55_235, s55_236, s55_237, s55_238, s55_241, s55_242, s55_245, s55_246, s55_247, s55_250, s55_251, s55_254, s55_255, s55_258, q1, k2'.1, q13, PZ.1, List.length_cons, List.length_nil, Nat.reduceAdd, Nat.reduceLeDiff, Nat.zero_le, tq8, tq9, y1, e0, not_false_eq_true, m3, m2, w4, w5, vbind_some, vpush_none, vpush_some]
end REF22
