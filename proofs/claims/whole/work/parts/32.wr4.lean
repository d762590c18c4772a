/-! writing packs: all of it -/
theorem pkF_spec (os : List Obj) (ws hs : List Nat) (sort : Nat) : ∀ k p, (∀ x ∈ pkF os ws hs sort k p, p ≤ x ∧ x < p + k ∧ x ∈ ws ∧ ¬ x ∈ hs ∧ (oAt os x).1 = sort) ∧ (pkF os ws hs sort k p).Nodup := by
  intro k
  induction k with
  | zero => intro p; exact ⟨fun x hx => (by cases hx), List.nodup_nil⟩
  | succ k ih =>
    intro p
    obtain ⟨g1, g2⟩ := ih (p + 1)
    unfold pkF
    split
    · rename_i hd
      refine ⟨fun x hx => ?_, List.nodup_cons.mpr ⟨fun hx => ?_, g2⟩⟩
      · rcases List.mem_cons.mp hx with rfl | hx
        · exact ⟨Nat.le_refl _, by omega, hd⟩
        · have := g1 x hx; exact ⟨by omega, by omega, this.2.2⟩
      · have := (g1 p hx).1; omega
    · exact ⟨fun x hx => by have := g1 x hx; exact ⟨by omega, by omega, this.2.2⟩, g2⟩
def pkAll (os : List Obj) (ws hs : List Nat) : List Nat := pkF os ws hs 1 os.length 0 ++ pkF os ws hs 2 os.length 0 ++ pkF os ws hs 3 os.length 0
theorem pkAll_ok (os : List Obj) (ws hs : List Nat) : (pkAll os ws hs).Nodup ∧ ∀ x ∈ pkAll os ws hs, x < os.length := by
  have a1 := pkF_spec os ws hs 1 os.length 0
  have a2 := pkF_spec os ws hs 2 os.length 0
  have a3 := pkF_spec os ws hs 3 os.length 0
  unfold pkAll
  refine ⟨?_, ?_⟩
  · rw [List.nodup_append, List.nodup_append]
    refine ⟨⟨a1.2, a2.2, ?_⟩, a3.2, ?_⟩
    · intro x hx y hy e
      subst e
      have := (a1.1 x hx).2.2.2.2
      have := (a2.1 x hy).2.2.2.2
      omega
    · intro x hx y hy e
      subst e
      have := (a3.1 x hy).2.2.2.2
      rcases List.mem_append.mp hx with q | q
      · have := (a1.1 x q).2.2.2.2; omega
      · have := (a2.1 x q).2.2.2.2; omega
  · intro x hx
    rcases List.mem_append.mp hx with hx | hx
    · rcases List.mem_append.mp hx with hx | hx
      · have := (a1.1 x hx).2.1; omega
      · have := (a2.1 x hx).2.1; omega
    · have := (a3.1 x hx).2.1; omega
theorem packL_b {bs : List Nat} (hb : ∀ x ∈ bs, x < 256) : ∀ x ∈ packL bs, x < 256 := by
  have main : ∀ n p, ∀ x ∈ packF bs n p, x < 256 := by
    intro n
    induction n with
    | zero => intro p x hx; cases hx
    | succ n ih =>
      intro p x hx
      unfold packF at hx
      split at hx
      · rename_i h1
        split at hx
        · rcases List.mem_append.mp hx with hx | hx
          · rcases List.mem_cons.mp hx with rfl | hx
            · omega
            · rw [List.mem_singleton.mp hx]; exact getD_lt hb p
          · exact ih _ x hx
        · rcases List.mem_cons.mp hx with rfl | hx
          · have := plN_in h1; omega
          · rcases List.mem_append.mp hx with hx | hx
            · exact hb x (List.mem_of_mem_drop (List.mem_of_mem_take hx))
            · exact ih _ x hx
      · cases hx
  exact main _ _
theorem headL_b {s z : Nat} (hs : s ≤ 7) (hz : z ≤ 255) : ∀ x ∈ headL s z, x < 256 := by
  intro x hx
  unfold headL at hx
  split at hx
  · rw [List.mem_singleton.mp hx]; omega
  · rcases List.mem_cons.mp hx with rfl | hx
    · omega
    · rw [List.mem_singleton.mp hx]; omega
def OsOk (os : List Obj) : Prop := ∀ o ∈ os, o.2.length ≤ 24 ∧ (∀ x ∈ o.2, x < 256) ∧ o.1 ≤ 3
theorem ShelfIs.ok {S : vSt} {sh cap : Nat} {os : List Obj} (h : ShelfIs S sh cap os) : OsOk os := by
  intro o ho
  obtain ⟨i, hi, rfl⟩ := List.getElem_of_mem ho
  have g := h.2.2.2.1 i _ (List.getElem?_eq_getElem hi)
  exact ⟨g.2.1.2.2.2.2.1, g.2.2.2.2.1, g.2.2.2.2.2⟩
theorem oAt_ok {os : List Obj} (h : OsOk os) (p : Nat) : (oAt os p).2.length ≤ 24 ∧ (∀ x ∈ (oAt os p).2, x < 256) ∧ (oAt os p).1 ≤ 3 := by
  rw [oAt, List.getD_eq_getElem?_getD]
  cases hq : os[p]? with
  | none => exact ⟨by simp, by simp, by simp⟩
  | some o => exact h o (List.mem_of_getElem? hq)
theorem wholeE_ok {o : Obj} (h : o.2.length ≤ 24 ∧ (∀ x ∈ o.2, x < 256) ∧ o.1 ≤ 3) : (wholeE o).length ≤ 27 ∧ ∀ x ∈ wholeE o, x < 256 := by
  have h1 := headL_len o.1 o.2.length
  have h2 := packL_len (bs := o.2) (by omega)
  unfold wholeE
  refine ⟨by rw [List.length_append]; omega, fun x hx => ?_⟩
  rcases List.mem_append.mp hx with q | q
  · exact headL_b (by omega) (by omega) x q
  · exact packL_b h.2.1 x q
theorem backE_b {B C : List Nat} {back : Nat} (hB : B.length ≤ 24) (hC : C.length ≤ 24) (bc : ∀ x ∈ C, x < 256) (hb : back < 65536) : ∀ x ∈ backE B C back, x < 256 := by
  have dl := diffL_len B C
  intro x hx
  unfold backE at hx
  rcases List.mem_append.mp hx with q | q
  · rcases List.mem_append.mp q with q | q
    · exact headL_b (by omega) (by omega) x q
    · rcases List.mem_cons.mp q with rfl | q
      · omega
      · rw [List.mem_singleton.mp q]; omega
  · exact packL_b (diffL_b hB hC bc) x q
theorem bestF_b {os : List Obj} (hos : OsOk os) (pk hd : List Nat) (C : Obj) (hC : C.2.length ≤ 24 ∧ (∀ x ∈ C.2, x < 256) ∧ C.1 ≤ 3) (L : Nat) (hL : L < 65536) : ∀ n cur, (∀ x ∈ cur, x < 256) → ∀ x ∈ bestF os pk hd C L n cur, x < 256 := by
  intro n
  induction n with
  | zero => intro cur h; exact h
  | succ n ih =>
    intro cur h
    unfold bestF
    refine ih _ ?_
    split
    · exact backE_b (oAt_ok hos _).1 hC.1 hC.2.1 (by omega)
    · exact h
def wrF (os : List Obj) (pk : List Nat) : Nat → List Nat → List Nat → List Nat
  | 0, _, ob => ob
  | k + 1, hd, ob => wrF os pk k (hd ++ [ob.length]) (ob ++ bestF os pk (hd ++ [ob.length]) (oAt os (pk.getD hd.length 0)) ob.length hd.length (wholeE (oAt os (pk.getD hd.length 0))))
def packOb (os : List Obj) (pk : List Nat) : List Nat := wrF os pk pk.length [] [80, 1, pk.length]
def packOut (os : List Obj) (pk : List Nat) : List Nat := packOb os pk ++ [hashN 7 (packOb os pk) / 256, hashN 7 (packOb os pk) % 256]
theorem wrF_ok {os : List Obj} (hos : OsOk os) (pk : List Nat) : ∀ k hd ob, (∀ x ∈ ob, x < 256) → ob.length + 27 * k ≤ 500 → (∀ x ∈ wrF os pk k hd ob, x < 256) ∧ (wrF os pk k hd ob).length ≤ ob.length + 27 * k := by
  intro k
  induction k with
  | zero => intro hd ob h hl; exact ⟨h, by simp [wrF]⟩
  | succ k ih =>
    intro hd ob h hl
    unfold wrF
    have hC := oAt_ok hos (pk.getD hd.length 0)
    have hw := wholeE_ok hC
    have hlen := bestF_len os pk (hd ++ [ob.length]) (oAt os (pk.getD hd.length 0)) ob.length hd.length (wholeE (oAt os (pk.getD hd.length 0)))
    have hbb := bestF_b hos pk (hd ++ [ob.length]) _ hC ob.length (by omega) hd.length _ hw.2
    have g := ih (hd ++ [ob.length]) (ob ++ bestF os pk (hd ++ [ob.length]) (oAt os (pk.getD hd.length 0)) ob.length hd.length (wholeE (oAt os (pk.getD hd.length 0)))) (by
      intro x hx
      rcases List.mem_append.mp hx with q | q
      · exact h x q
      · exact hbb x q) (by rw [List.length_append]; omega)
    rw [List.length_append] at g
    exact ⟨g.1, by omega⟩
def WLen (S : vSt) : Prop := (S.2 143).length = 16 ∧ (S.2 144).length = 16 ∧ (S.2 146).length = 64 ∧ (S.2 148).length = 64 ∧ (S.2 150).length = 64
theorem c_write_loop {os : List Obj} {pk : List Nat} {w1' w2' : Option Value} : ∀ k hd ob S, hd.length + k = pk.length → WIn S os pk hd ob → (∀ x ∈ hd, x ≤ ob.length) → ob.length ≤ 3 + 27 * hd.length → (∀ x ∈ ob, x < 256) → ∃ S1, runv 132 71 [some (.ref 142), w1', w2', some (.int (nI hd.length))] [] (hp S) = runv 132 90 [some (.ref 142), w1', w2', some (.int (nI pk.length))] [] (hp S1) ∧ (∃ hd1, WIn S1 os pk hd1 (wrF os pk k hd ob)) ∧ Wout S S1 := by
  intro k
  induction k with
  | zero =>
    intro hd ob S hk hW hm hl hb
    have hpk := hW.2.2.1.2.2.2
    refine ⟨S, ?_, ⟨hd, hW⟩, Agr.rf, Agr.rf⟩
    rw [s132_71]
    simp only [s132_72, s132_73, s132_76, w4, hW.2.2.1.1]
    rw [if_pos (nI_le (by omega) (by omega)), show hd.length = pk.length by omega]
  | succ k ih =>
    intro hd ob S hk hW hm hl hb
    have hpk := hW.2.2.1.2.2.2
    have t1 := wt (S := S)
    obtain ⟨S1, g1, g2, g3⟩ := c_writeEntry hW (by omega) hm (by omega)
    have hos := hW.1.ok
    have hC := oAt_ok hos (pk.getD hd.length 0)
    have hw := wholeE_ok hC
    have hlen := bestF_len os pk (hd ++ [ob.length]) (oAt os (pk.getD hd.length 0)) ob.length hd.length (wholeE (oAt os (pk.getD hd.length 0)))
    have hbb := bestF_b hos pk (hd ++ [ob.length]) _ hC ob.length (by omega) hd.length _ hw.2
    obtain ⟨S2, k1, k2, k3⟩ := ih (hd ++ [ob.length]) _ S1 (by simp; omega) g2 (by
      intro x hx
      rw [List.length_append]
      rcases List.mem_append.mp hx with q | q
      · have := hm x q; omega
      · rw [List.mem_singleton.mp q]; omega) (by rw [List.length_append, List.length_append]; simp only [List.length_singleton]; omega) (by
      intro x hx
      rcases List.mem_append.mp hx with q | q
      · exact hb x q
      · exact hbb x q)
    refine ⟨S2, ?_, ?_, g3.tr k3⟩
    · rw [s132_71]
      simp only [s132_72, s132_73, s132_76, s132_79, s132_80, s132_81, s132_84, s132_87, w4, hW.2.2.1.1, List.length_cons, List.length_nil, Nat.reduceAdd, Nat.reduceLeDiff, Nat.zero_le, t1, g1, vbind_some, vpush_none, nI_1]
      rw [if_neg (nI_ge (by omega) (by omega))]
      rw [← k1]
      simp
    · exact k2
theorem c_write {S : vSt} {os : List Obj} {ws hs : List Nat} (hS : ShelfIs S 4 16 os) (hCw : ClosIs S 136 24 ws) (hCh : ClosIs S 139 16 hs) (h3 : (S.2 3).length = 500) (hw : WLen S) : ∃ S1, callv 132 [.ref 142, .ref 136, .ref 139] (hp S) = some (some (.int (nI (pkAll os ws hs).length)), hp S1) ∧ RowIs S1 2 3 500 (if (pkAll os ws hs).length = 0 then [] else packOut os (pkAll os ws hs)) ∧ WLen S1 ∧ Wout S S1 := by
  have hle := hS.2.1
  obtain ⟨nd, hlt⟩ := pkAll_ok os ws hs
  have hpl : (pkAll os ws hs).length ≤ 16 := nodup_len nd (fun j hj => by have := hlt j hj; omega)
  have hpl' := hpl
  unfold pkAll at hpl'
  simp only [List.length_append] at hpl'
  have t1 := fun S => wt (S := S)
  have t2 := fun S => rowt (S := S) isRow_o
  have hP0 : PkIs (fu S 142 4 0) [] := ⟨by rw [fu_at]; rfl, hw.1, rfl, by simp⟩
  have a0 : ∀ lo hi, hi ≤ 142 ∨ 143 ≤ lo → Agr S (fu S 142 4 0) lo hi := fun lo hi h => Agr.fu (by omega)
  have e1 := c_pick (S := fu S 142 4 0) (sort := 1) (pk := []) (cw := 136) (ch := 139) (by omega) (by omega) (by omega) (hS.agr (a0 _ _ (by omega))) (hCw.agr (a0 _ _ (by omega))) (hCh.agr (a0 _ _ (by omega))) hP0 (by simp; omega)
  rw [List.nil_append] at e1
  have hP1 := hP0.set (cs := pkF os ws hs 1 os.length 0) (by omega)
  generalize hS1 : pkSet (fu S 142 4 0) (pkF os ws hs 1 os.length 0) = S1 at e1 hP1
  have a1 : ∀ lo hi, hi ≤ 142 ∨ 144 ≤ lo → Agr S S1 lo hi := fun lo hi h => by rw [← hS1]; exact (a0 lo hi (by omega)).tr (Agr.pk (by omega))
  have e2 := c_pick (S := S1) (sort := 2) (cw := 136) (ch := 139) (by omega) (by omega) (by omega) (hS.agr (a1 _ _ (by omega))) (hCw.agr (a1 _ _ (by omega))) (hCh.agr (a1 _ _ (by omega))) hP1 (by rw [List.length_append]; omega)
  have hP2 := hP1.set (cs := pkF os ws hs 1 os.length 0 ++ pkF os ws hs 2 os.length 0) (by rw [List.length_append]; omega)
  generalize hS2 : pkSet S1 (pkF os ws hs 1 os.length 0 ++ pkF os ws hs 2 os.length 0) = S2 at e2 hP2
  have a2 : ∀ lo hi, hi ≤ 142 ∨ 144 ≤ lo → Agr S S2 lo hi := fun lo hi h => by rw [← hS2]; exact (a1 lo hi h).tr (Agr.pk (by omega))
  have e3 := c_pick (S := S2) (sort := 3) (cw := 136) (ch := 139) (by omega) (by omega) (by omega) (hS.agr (a2 _ _ (by omega))) (hCw.agr (a2 _ _ (by omega))) (hCh.agr (a2 _ _ (by omega))) hP2 (by rw [List.length_append, List.length_append]; omega)
  have hP3 := hP2.set (cs := pkF os ws hs 1 os.length 0 ++ pkF os ws hs 2 os.length 0 ++ pkF os ws hs 3 os.length 0) (by rw [List.length_append, List.length_append]; omega)
  generalize hS3 : pkSet S2 (pkF os ws hs 1 os.length 0 ++ pkF os ws hs 2 os.length 0 ++ pkF os ws hs 3 os.length 0) = S3 at e3 hP3
  have a3 : ∀ lo hi, hi ≤ 142 ∨ 144 ≤ lo → Agr S S3 lo hi := fun lo hi h => by rw [← hS3]; exact (a2 lo hi h).tr (Agr.pk (by omega))
  have hP3' : PkIs S3 (pkAll os ws hs) := hP3
  have hpe : pkF os ws hs 1 os.length 0 ++ pkF os ws hs 2 os.length 0 ++ pkF os ws hs 3 os.length 0 = pkAll os ws hs := rfl
  generalize hpk : pkAll os ws hs = pk at hP3' nd hlt hpl
  have h3' : (S3.2 3).length = 500 := by rw [((a3 3 4 (by omega)) 3 (by omega) (by omega)).2, h3]
  have hR0 := row_nil (S := S3) isRow_o h3' (by omega)
  have c1 : (1 : Int32) ≤ 3 := by decide
  have start : callv 132 [.ref 142, .ref 136, .ref 139] (hp S) = if pk.length = 0 then some (some (.int 0), hp (fu S3 2 1 0)) else runv 132 41 [some (.ref 142), some (.ref 136), some (.ref 139), some (.int 4)] [] (hp (fu S3 2 1 0)) := by
    show runv 132 0 [some (.ref 142), some (.ref 136), some (.ref 139), none] [] (hp S) = _
    have m0 : (nI pk.length = 0) = (pk.length = 0) := nI_inj (b := 0) (by omega) (by omega)
    simp only [s132_0, s132_1, s132_2, s132_5, s132_6, w4p]
    rw [s132_7]
    simp only [s132_8, s132_9, s132_12, s132_13, s132_14, s132_15, s132_16, s132_19, s132_22, List.length_cons, List.length_nil, Nat.reduceAdd, Nat.reduceLeDiff, Nat.zero_le, t1, vbind_some, vpush_none]
    rw [if_neg (show ¬ (3 : Int32) < 1 by decide), show (1 : Int32) = nI 1 from rfl, e1]
    simp only [s132_8, s132_9, s132_12, s132_13, s132_14, s132_15, s132_16, s132_19, s132_22, vbind_some, vpush_none]
    rw [s132_7]
    simp only [s132_8, s132_9, s132_12, s132_13, s132_14, s132_15, s132_16, s132_19, s132_22, List.length_cons, List.length_nil, Nat.reduceAdd, Nat.reduceLeDiff, Nat.zero_le, t1, vbind_some, vpush_none]
    rw [if_neg (show ¬ (3 : Int32) < nI 1 + nI 1 by decide), show nI 1 + nI 1 = nI 2 from rfl, e2]
    simp only [s132_8, s132_9, s132_12, s132_13, s132_14, s132_15, s132_16, s132_19, s132_22, vbind_some, vpush_none]
    rw [s132_7]
    simp only [s132_8, s132_9, s132_12, s132_13, s132_14, s132_15, s132_16, s132_19, s132_22, List.length_cons, List.length_nil, Nat.reduceAdd, Nat.reduceLeDiff, Nat.zero_le, t1, vbind_some, vpush_none]
    rw [if_neg (show ¬ (3 : Int32) < nI 2 + 1 by decide), show nI 2 + 1 = nI 3 from rfl, e3]
    simp only [s132_8, s132_9, s132_12, s132_13, s132_14, s132_15, s132_16, s132_19, s132_22, vbind_some, vpush_none]
    rw [s132_7]
    simp only [s132_8, s132_9, s132_12, s132_13, s132_14, s132_15, s132_16, s132_19, s132_22, s132_25, s132_26, s132_29, s132_32, s132_33, s132_36, s132_39, s132_40, w1, w4, List.length_cons, List.length_nil, Nat.reduceAdd, Nat.reduceLeDiff, Nat.zero_le, t2, c_clear0 isRow_o, vbind_some, vpush_none]
    rw [if_pos (show (3 : Int32) < nI 3 + 1 by decide), fu_a _ _ (by omega), hP3'.1]
    simp only [m0]
    rfl
  rw [start]
  by_cases hz : pk.length = 0
  · rw [if_pos hz, if_pos hz, hz]
    refine ⟨_, rfl, hR0, ?_, ?_⟩
    · obtain ⟨w1, w2, w3, w4, w5⟩ := hw
      have b := a3 144 151 (by omega)
      exact ⟨by rw [fu_2]; exact hP3'.2.1, by rw [fu_2, (b 144 (by omega) (by omega)).2, w2], by rw [fu_2, (b 146 (by omega) (by omega)).2, w3], by rw [fu_2, (b 148 (by omega) (by omega)).2, w4], by rw [fu_2, (b 150 (by omega) (by omega)).2, w5]⟩
    · exact ⟨(a3 _ _ (by omega)).tr (Agr.fu (by omega)), (a3 _ _ (by omega)).tr (Agr.fu (by omega))⟩
  · rw [if_neg hz, if_neg hz]
    have f1 := c_add hR0 (x := 80) (by simp)
    have hR1 := hR0.set (cs := [] ++ [80]) (by simp)
    have f2 := c_add hR1 (x := 1) (by simp)
    have hR2 := hR1.set (cs := [] ++ [80] ++ [1]) (by simp)
    have f3 := c_add hR2 (x := pk.length) (by simp)
    have hR3 := hR2.set (cs := [] ++ [80] ++ [1] ++ [pk.length]) (by simp)
    rw [rowSet_grow (by simp)] at f2 hR2 f3
    rw [rowSet_grow (by simp)] at f3
    rw [rowSet_grow (by simp), rowSet_grow (by simp)] at hR3
    generalize hT : rowSet (fu S3 2 1 0) 2 3 ([] ++ [80] ++ [1] ++ [pk.length]) = T at f3 hR3
    have aT : Agr S3 T 4 1000 := by rw [← hT]; exact (Agr.fu (by omega)).tr (Agr.row (by omega) (by omega))
    obtain ⟨w1', w2', w3', w4', w5'⟩ := hw
    have b := a3 144 151 (by omega)
    have hWT : WIn T os pk [] [80, 1, pk.length] := by
      obtain ⟨p1, p2, p3, p4⟩ := hP3'
      refine ⟨(hS.agr (a3 _ _ (by omega))).agr (aT.sub (by omega) (by omega)), hR3, ⟨by rw [(aT 142 (by omega) (by omega)).1, p1], by rw [(aT 143 (by omega) (by omega)).2, p2], by rw [(aT 143 (by omega) (by omega)).2, p3], p4⟩, hlt, by rw [(aT 144 (by omega) (by omega)).2, (b 144 (by omega) (by omega)).2, w2'], rfl, by simp, by rw [(aT 146 (by omega) (by omega)).2, (b 146 (by omega) (by omega)).2, w3'], by rw [(aT 148 (by omega) (by omega)).2, (b 148 (by omega) (by omega)).2, w4'], by rw [(aT 150 (by omega) (by omega)).2, (b 150 (by omega) (by omega)).2, w5']⟩
    have hb0 : ∀ x ∈ ([80, 1, pk.length] : List Nat), x < 256 := by
      intro x hx
      rcases List.mem_cons.mp hx with rfl | hx
      · omega
      · rcases List.mem_cons.mp hx with rfl | hx
        · omega
        · rw [List.mem_singleton.mp hx]; omega
    obtain ⟨T1, g1, ⟨hd1, g2⟩, g3⟩ := c_write_loop (w1' := some (.ref 136)) (w2' := some (.ref 139)) pk.length [] [80, 1, pk.length] T (by simp) hWT (fun x hx => by cases hx) (by simp) hb0
    have hob := wrF_ok hS.ok pk pk.length [] [80, 1, pk.length] hb0 (by simp; omega)
    have hoe : wrF os pk pk.length [] [80, 1, pk.length] = packOb os pk := rfl
    rw [hoe] at g2 hob
    simp only [List.length_cons, List.length_nil] at hob
    have k1 := c_hashOn g2.2.1 hob.1 (n := (packOb os pk).length) (g := 7) (by omega) (by omega)
    rw [List.take_length] at k1
    have k2 := c_addTwo g2.2.1 (n := hashN 7 (packOb os pk)) (by omega) (by have := hashN_lt (h := 7) (packOb os pk) (by omega); omega)
    have hRf := g2.2.1.set (cs := packOb os pk ++ [hashN 7 (packOb os pk) / 256, hashN 7 (packOb os pk) % 256]) (by rw [List.length_append]; simp; omega)
    generalize hU : rowSet T1 2 3 (packOb os pk ++ [hashN 7 (packOb os pk) / 256, hashN 7 (packOb os pk) % 256]) = U at k2 hRf
    have aU : Agr T1 U 4 1000 := by rw [← hU]; exact Agr.row (by omega) (by omega)
    refine ⟨U, ?_, hRf, ?_, ?_⟩
    · have e4 : (fu S3 2 1 0).1 142 4 = nI pk.length := by rw [fu_a _ _ (by omega), hP3'.1]
      have e5 : ∀ cs, (rowSet (fu S3 2 1 0) 2 3 cs).1 142 4 = nI pk.length := fun cs => by rw [rowSet, au_1, fu_a _ _ (by omega), e4]
      have e6 : U.1 142 4 = nI pk.length := by rw [(aU 142 (by omega) (by omega)).1, g2.2.2.1.1]
      simp only [s132_41, s132_42, s132_45, s132_47, s132_50, s132_51, s132_54, s132_55, s132_58, s132_59, s132_62, s132_63, s132_66, s132_69, s132_70, w1, w4, List.length_cons, List.length_nil, Nat.reduceAdd, Nat.reduceLeDiff, Nat.zero_le, t2, show (80 : Int32) = nI 80 from rfl, f1, show (1 : Int32) = nI 1 from rfl, f2, e5, f3, vbind_some, vpush_none]
      refine (show runv 132 71 [some (.ref 142), some (.ref 136), some (.ref 139), some (.int (nI ([] : List Nat).length))] [] (hp T) = _ from g1).trans ?_
      simp only [s132_90, s132_91, s132_94, s132_95, s132_98, s132_100, s132_101, s132_104, s132_107, s132_110, s132_113, s132_114, s132_117, w1, w4, List.length_cons, List.length_nil, Nat.reduceAdd, Nat.reduceLeDiff, Nat.zero_le, t2, c_used g2.2.1, show (7 : Int32) = nI 7 from rfl, k1, k2, e6, vbind_some, vpush_some, vpush_none]
    · obtain ⟨q1, q2, q3, q4, q5, q6, q7, q8, q9, q10⟩ := g2
      exact ⟨by rw [(aU 143 (by omega) (by omega)).2, q3.2.1], by rw [(aU 144 (by omega) (by omega)).2, q5], by rw [(aU 146 (by omega) (by omega)).2, q8], by rw [(aU 148 (by omega) (by omega)).2, q9], by rw [(aU 150 (by omega) (by omega)).2, q10]⟩
    · exact ⟨(((a3 _ _ (by omega)).tr (aT.sub (by omega) (by omega))).tr g3.1).tr (aU.sub (by omega) (by omega)), (((a3 _ _ (by omega)).tr (aT.sub (by omega) (by omega))).tr g3.2).tr (aU.sub (by omega) (by omega))⟩
