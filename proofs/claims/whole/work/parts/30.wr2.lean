/-! writing packs: picks, entries -/
def PkIs (S : vSt) (pk : List Nat) : Prop := S.1 142 4 = nI pk.length ∧ (S.2 143).length = 16 ∧ (S.2 143).take pk.length = pk.map nI ∧ pk.length ≤ 16
def pkSet (S : vSt) (pk : List Nat) : vSt := au (fu S 142 4 (nI pk.length)) 143 (pk.map nI ++ (S.2 143).drop pk.length)
theorem pkSet_self {S : vSt} {pk : List Nat} (h : PkIs S pk) : pkSet S pk = S := by
  obtain ⟨h1, h2, h3, h4⟩ := h
  rw [pkSet, ← h3, List.take_append_drop, au_self (by rw [fu_2])]
  refine Prod.ext ?_ rfl
  funext b j
  simp only [fu]
  split
  · rename_i hb; rw [hb.1, hb.2, h1]
  · rfl
theorem pkSet_grow {S : vSt} {bs cs : List Nat} (h : bs.length ≤ cs.length) : pkSet (pkSet S bs) cs = pkSet S cs := by
  refine Prod.ext ?_ (funext fun b => ?_)
  · funext b j
    simp only [pkSet, au_1, fu]
    split
    · rfl
    · rename_i hb
      simp only [au_1, if_neg hb]
  · by_cases hb : b = 143
    · subst hb
      simp only [pkSet, au_at, fu_2]
      rw [List.drop_append, List.drop_of_length_le (by simp; exact h), List.nil_append, List.drop_drop]
      congr 2
      simp
      omega
    · simp only [pkSet, au_a _ _ hb, fu_2]
theorem PkIs.set {S : vSt} {pk cs : List Nat} (h : PkIs S pk) (hc : cs.length ≤ 16) : PkIs (pkSet S cs) cs := by
  obtain ⟨h1, h2, h3, h4⟩ := h
  refine ⟨?_, ?_, ?_, hc⟩
  · simp [pkSet, au_1, fu_at]
  · simp [pkSet, au_at]; omega
  · simp only [pkSet, au_at]
    rw [List.take_left' (by simp)]
theorem Agr.pk {S : vSt} {pk : List Nat} {lo hi : Nat} (h : hi ≤ 142 ∨ 144 ≤ lo) : Agr S (pkSet S pk) lo hi := (Agr.fu (by omega)).tr (Agr.au (by omega))
def due (os : List Obj) (ws hs : List Nat) (sort p : Nat) : Prop := p ∈ ws ∧ ¬ p ∈ hs ∧ (oAt os p).1 = sort
def pkF (os : List Obj) (ws hs : List Nat) (sort : Nat) : Nat → Nat → List Nat
  | 0, _ => []
  | k + 1, p => if p ∈ ws ∧ ¬ p ∈ hs ∧ (oAt os p).1 = sort then p :: pkF os ws hs sort k (p + 1) else pkF os ws hs sort k (p + 1)
theorem ClosIs.agr {S S1 : vSt} {c N : Nat} {ms : List Nat} (h : ClosIs S c N ms) (e : Agr S S1 c (c + 3)) : ClosIs S1 c N ms := by
  obtain ⟨h1, h2, h3, h4, h5, h6, h7, h8⟩ := h
  have e0 := e c (by omega) (by omega)
  have e1 := e (c + 1) (by omega) (by omega)
  have e2 := e (c + 2) (by omega) (by omega)
  exact ⟨h1, by rw [e0.1, h2], by rw [e1.2, h3], by rw [e2.2, h4], by rw [e2.2, h5], fun j hj => by rw [e1.2, h6 j hj], h7, h8⟩
theorem c_pick_loop {cw Nw ch Nh sort : Nat} {os : List Obj} {ws hs : List Nat} (hcw : cw + 3 ≤ 142) (hch : ch + 3 ≤ 142) (hsort : sort < 100) : ∀ k p pk S w, p + k = os.length → ShelfIs S 4 16 os → ClosIs S cw Nw ws → ClosIs S ch Nh hs → PkIs S pk → (pk ++ pkF os ws hs sort k p).length ≤ 16 → runv 133 3 [some (.ref 142), some (.int (nI sort)), some (.ref cw), some (.ref ch), some (.int (nI p)), w] [] (hp S) = some (none, hp (pkSet S (pk ++ pkF os ws hs sort k p))) := by
  intro k
  induction k with
  | zero =>
    intro p pk S w hk hS hW hH hP hl
    have hle := hS.2.1
    have t1 := sht (S := S) hS.1
    rw [s133_3]
    simp only [s133_0, s133_1, s133_5, s133_6, s133_9, s133_12, s133_15, s133_16, s133_18, s133_21, s133_24, s133_25, s133_27, s133_30, s133_33, s133_34, s133_37, s133_38, s133_40, s133_42, s133_45, s133_46, s133_49, s133_51, s133_54, s133_57, s133_58, s133_61, s133_62, s133_65, s133_67, s133_70, s133_71, s133_74, s133_75, s133_78, s133_80, s133_81, s133_82, r133_82, s133_83, s133_86, s133_87, s133_88, s133_91, s133_94, s133_97, w0, List.length_cons, List.length_nil, Nat.reduceAdd, Nat.reduceLeDiff, Nat.zero_le, t1, c_held hS, vbind_some, vpush_some]
    rw [if_pos (nI_le (by omega) (by omega)), pkF, List.append_nil, pkSet_self hP]
  | succ k ih =>
    intro p pk S w hk hS hW hH hP hl
    have hle := hS.2.1
    have hpl : p < os.length := by omega
    have t1 := sht (S := S) hS.1
    have t2 := clt (S := S) hW.1
    have t3 := clt (S := S) hH.1
    have ho : os[p]? = some (oAt os p) := by rw [oAt, List.getD_eq_getElem?_getD, List.getElem?_eq_getElem hpl]; rfl
    have hit := hS.2.2.2.1 p _ ho
    have t4 := itt (S := S) hit.1
    have k3 := hit.2.2.2.2.2
    rw [s133_3]
    simp only [s133_0, s133_1, s133_5, s133_6, s133_9, s133_12, s133_15, s133_16, s133_18, s133_21, s133_24, s133_25, s133_27, s133_30, s133_33, s133_34, s133_37, s133_38, s133_40, s133_42, s133_45, s133_46, s133_49, s133_51, s133_54, s133_57, s133_58, s133_61, s133_62, s133_65, s133_67, s133_70, s133_71, s133_74, s133_75, s133_78, s133_80, s133_81, s133_82, r133_82, s133_83, s133_86, s133_87, s133_88, s133_91, s133_94, s133_97, w0, List.length_cons, List.length_nil, Nat.reduceAdd, Nat.reduceLeDiff, Nat.zero_le, t1, t2, t3, t4, c_held hS, c_has hW (show p < 1000 by omega), c_has hH (show p < 1000 by omega), c_shGet hS.1 (show p < 16 by omega), vbind_some, vpush_some, if_bI]
    rw [if_neg (nI_ge hpl (by omega))]
    have hstep : ∀ w, runv 133 91 [some (.ref 142), some (.int (nI sort)), some (.ref cw), some (.ref ch), some (.int (nI p)), w] [] (hp S) = some (none, hp (pkSet S (pk ++ pkF os ws hs sort k (p + 1)))) → runv 133 91 [some (.ref 142), some (.int (nI sort)), some (.ref cw), some (.ref ch), some (.int (nI p)), w] [] (hp S) = some (none, hp (pkSet S (pk ++ pkF os ws hs sort k (p + 1)))) := fun _ h => h
    have skip : ∀ w, (pk ++ pkF os ws hs sort k (p + 1)).length ≤ 16 → runv 133 3 [some (.ref 142), some (.int (nI sort)), some (.ref cw), some (.ref ch), some (.int (nI (p + 1))), w] [] (hp S) = some (none, hp (pkSet S (pk ++ pkF os ws hs sort k (p + 1)))) := fun w hl => ih (p + 1) pk S w (by omega) hS hW hH hP hl
    rw [pkF] at hl ⊢
    by_cases q1 : p ∈ ws
    · rw [if_pos (decide_eq_true q1)]
      by_cases q2 : p ∈ hs
      · have nd : ¬ (p ∈ ws ∧ ¬ p ∈ hs ∧ (oAt os p).1 = sort) := fun z => z.2.1 q2
        rw [if_neg nd] at hl ⊢
        rw [if_pos (decide_eq_true q2)]
        simp only [s133_0, s133_1, s133_5, s133_6, s133_9, s133_12, s133_15, s133_16, s133_18, s133_21, s133_24, s133_25, s133_27, s133_30, s133_33, s133_34, s133_37, s133_38, s133_40, s133_42, s133_45, s133_46, s133_49, s133_51, s133_54, s133_57, s133_58, s133_61, s133_62, s133_65, s133_67, s133_70, s133_71, s133_74, s133_75, s133_78, s133_80, s133_81, s133_82, r133_82, s133_83, s133_86, s133_87, s133_88, s133_91, s133_94, s133_97, if_true, nI_1]
        exact skip _ hl
      · rw [if_neg (by simp [q2])]
        simp only [s133_0, s133_1, s133_5, s133_6, s133_9, s133_12, s133_15, s133_16, s133_18, s133_21, s133_24, s133_25, s133_27, s133_30, s133_33, s133_34, s133_37, s133_38, s133_40, s133_42, s133_45, s133_46, s133_49, s133_51, s133_54, s133_57, s133_58, s133_61, s133_62, s133_65, s133_67, s133_70, s133_71, s133_74, s133_75, s133_78, s133_80, s133_81, s133_82, r133_82, s133_83, s133_86, s133_87, s133_88, s133_91, s133_94, s133_97, w0, List.length_cons, List.length_nil, Nat.reduceAdd, Nat.reduceLeDiff, Nat.zero_le, t1, t4, c_shGet hS.1 (show p < 16 by omega), c_sort hit.1, hit.2.2.1, vbind_some, vpush_some, nI_inj (show (oAt os p).1 < 2 ^ 31 by omega) (show sort < 2 ^ 31 by omega), nI_1, w2, w4, hP.1]
        rw [if_neg (show ¬ (1 : Int32) = 0 by decide)]
        by_cases q3 : (oAt os p).1 = sort
        · rw [if_pos q3]
          have yd : p ∈ ws ∧ ¬ p ∈ hs ∧ (oAt os p).1 = sort := ⟨q1, q2, q3⟩
          rw [if_pos yd] at hl ⊢
          have hlt : pk.length < 16 := by simp only [List.length_append, List.length_cons] at hl; omega
          rw [if_neg (show ¬ (16 : Int32) ≤ nI pk.length from nI_ge (b := 16) hlt (by omega)), arst sk143 (by rw [hP.2.1]; exact hlt) (by rw [hP.2.1]; omega)]
          simp only [s133_0, s133_1, s133_5, s133_6, s133_9, s133_12, s133_15, s133_16, s133_18, s133_21, s133_24, s133_25, s133_27, s133_30, s133_33, s133_34, s133_37, s133_38, s133_40, s133_42, s133_45, s133_46, s133_49, s133_51, s133_54, s133_57, s133_58, s133_61, s133_62, s133_65, s133_67, s133_70, s133_71, s133_74, s133_75, s133_78, s133_80, s133_81, s133_82, r133_82, s133_83, s133_86, s133_87, s133_88, s133_91, s133_94, s133_97, w4, au_1, hP.1, nI_1, w4p]
          have e1 : fu (au S 143 ((S.2 143).set pk.length (nI p))) 142 4 (nI (pk.length + 1)) = pkSet S (pk ++ [p]) := by
            rw [set_app hP.2.2.1 (by rw [hP.2.1]; exact hlt)]
            simp only [pkSet, List.length_append, List.length_singleton, List.map_append, List.map_cons, List.map_nil]
            rfl
          rw [e1]
          have a1 : Agr S (pkSet S (pk ++ [p])) 0 142 := Agr.pk (by omega)
          rw [ih (p + 1) (pk ++ [p]) (pkSet S (pk ++ [p])) _ (by omega) (hS.agr (a1.sub (by omega) (by omega))) (hW.agr (a1.sub (by omega) (by omega))) (hH.agr (a1.sub (by omega) (by omega))) (hP.set (by simp; omega)) (by simpa using hl), pkSet_grow (by simp), List.append_assoc]
          rfl
        · have nd : ¬ (p ∈ ws ∧ ¬ p ∈ hs ∧ (oAt os p).1 = sort) := fun z => q3 z.2.2
          rw [if_neg nd] at hl ⊢
          rw [if_neg q3]
          exact skip _ hl
    · have nd : ¬ (p ∈ ws ∧ ¬ p ∈ hs ∧ (oAt os p).1 = sort) := fun z => q1 z.1
      rw [if_neg nd] at hl ⊢
      rw [if_neg (by simp [q1])]
      simp only [s133_0, s133_1, s133_5, s133_6, s133_9, s133_12, s133_15, s133_16, s133_18, s133_21, s133_24, s133_25, s133_27, s133_30, s133_33, s133_34, s133_37, s133_38, s133_40, s133_42, s133_45, s133_46, s133_49, s133_51, s133_54, s133_57, s133_58, s133_61, s133_62, s133_65, s133_67, s133_70, s133_71, s133_74, s133_75, s133_78, s133_80, s133_81, s133_82, r133_82, s133_83, s133_86, s133_87, s133_88, s133_91, s133_94, s133_97, if_true, nI_1]
      exact skip _ hl
theorem c_pick {S : vSt} {cw Nw ch Nh sort : Nat} {os : List Obj} {ws hs pk : List Nat} (hcw : cw + 3 ≤ 142) (hch : ch + 3 ≤ 142) (hsort : sort < 100) (hS : ShelfIs S 4 16 os) (hW : ClosIs S cw Nw ws) (hH : ClosIs S ch Nh hs) (hP : PkIs S pk) (hl : (pk ++ pkF os ws hs sort os.length 0).length ≤ 16) : callv 133 [.ref 142, .int (nI sort), .ref cw, .ref ch] (hp S) = some (none, hp (pkSet S (pk ++ pkF os ws hs sort os.length 0))) := by
  show runv 133 0 [some (.ref 142), some (.int (nI sort)), some (.ref cw), some (.ref ch), none, none] [] (hp S) = _
  simp only [s133_0, s133_1]
  rw [show (0 : Int32) = nI 0 from rfl]
  exact c_pick_loop hcw hch hsort os.length 0 pk S none (by omega) hS hW hH hP hl
/-- an entry by a base: the bytes -/
def backE (B C : List Nat) (back : Nat) : List Nat := headL 6 (diffL B C).length ++ [back / 256, back % 256] ++ packL (diffL B C)
theorem diffL_b {B C : List Nat} (hB : B.length ≤ 24) (hC : C.length ≤ 24) (bc : ∀ x ∈ C, x < 256) : ∀ x ∈ diffL B C, x < 256 := by
  have hput : ∀ s n, n ≤ 24 → ∀ x ∈ putL ((C.drop s).take n), x < 256 := by
    intro s n hn x hx
    unfold putL at hx
    split at hx
    · cases hx
    · rcases List.mem_cons.mp hx with rfl | hx
      · simp only [List.length_take]; omega
      · exact bc x (List.mem_of_mem_drop (List.mem_of_mem_take hx))
  have main : ∀ n p w, p ≤ C.length → w ≤ p → ∀ x ∈ diffF B C n p w, x < 256 := by
    intro n
    induction n with
    | zero =>
      intro p w h1 h2 x hx
      unfold diffF at hx
      exact hput _ _ (by omega) x hx
    | succ n ih =>
      intro p w h1 h2 x hx
      unfold diffF at hx
      split at hx
      · rename_i h3
        have hcm := commN_le (C.drop p) (B.drop (lpl B C p))
        have hlp : lpl B C p ≤ B.length := lpF_le B C p B.length 0 0 0 (by omega) (by omega)
        simp only [List.length_drop] at hcm
        split at hx
        · rcases List.mem_append.mp hx with hx | hx
          · exact hput _ _ (by omega) x hx
          · rcases List.mem_cons.mp hx with rfl | hx
            · omega
            · rcases List.mem_cons.mp hx with rfl | hx
              · omega
              · exact ih _ _ (by omega) (by omega) x hx
        · exact ih _ _ (by omega) (by omega) x hx
      · exact hput _ _ (by omega) x hx
  intro x hx
  unfold diffL at hx
  rcases List.mem_cons.mp hx with rfl | hx
  · omega
  · rcases List.mem_cons.mp hx with rfl | hx
    · omega
    · exact main _ _ _ (by omega) (by omega) x hx
theorem backE_len {B C : List Nat} {back : Nat} (hC : C.length ≤ 24) : (backE B C back).length ≤ 32 := by
  have h1 := diffL_len B C
  have h2 := packL_len (bs := diffL B C) (by omega)
  have h3 := headL_len 6 (diffL B C).length
  unfold backE
  simp only [List.length_append, List.length_cons, List.length_nil]
  omega
theorem c_writeByBack {S : vSt} {it r a k it' r' a' k' back : Nat} {B C : List Nat} (hB : ItemIs S it r a k B) (hC : ItemIs S it' r' a' k' C) (hd : (S.2 146).length = 64) (ht : (S.2 148).length = 64) (hr1 : a < 142) (hr2 : a' < 142) (hr3 : r < 142) (hr4 : r' < 142) (hb : back < 65536) : callv 135 [.ref 142, .ref it, .ref it', .int (nI back)] (hp S) = some (none, hp (rowSet (rowSet S 145 146 (diffL B C)) 147 148 (backE B C back))) := by
  have c5 := hC.2.1.2.2.2.2.1
  have b5 := hB.2.1.2.2.2.2.1
  have t1 := itt (S := S) hB.1
  have t2 := itt (S := S) hC.1
  have t3 := fun S => rowt (S := S) isRow_d
  have t4 := fun S => rowt (S := S) isRow_t
  have dl := diffL_len B C
  have pl := packL_len (bs := diffL B C) (by omega)
  have hl2 := headL_len 6 (diffL B C).length
  have e1 := c_diff hB.2.1 hC.2.1 isRow_d hd (by omega) hB.2.2.2.2.1 hC.2.2.2.2.1 (by omega) (by omega) (by omega) (by omega) (by omega)
  have hD : RowIs (rowSet S 145 146 (diffL B C)) 145 146 64 (diffL B C) := (row_nil (S := S) isRow_d hd (by omega)).set (cs := diffL B C) (by omega) |> fun h => by rwa [rowSet_fu0] at h
  have ht1 : ((rowSet S 145 146 (diffL B C)).2 148).length = 64 := by
    rw [((Agr.row (S := S) (r := 145) (a := 146) (bs := diffL B C) (lo := 148) (hi := 149) (by omega) (by omega)) 148 (by omega) (by omega)).2, ht]
  have hT0 := row_nil (S := rowSet S 145 146 (diffL B C)) isRow_t ht1 (by omega)
  have hD0 : RowIs (fu (rowSet S 145 146 (diffL B C)) 147 1 0) 145 146 64 (diffL B C) := hD.fu (by omega)
  have e2 := c_writeHead hT0 (s := 6) (z := (diffL B C).length) (by omega) (by omega) (by simp)
  rw [List.nil_append] at e2
  have hT1 := hT0.set (cs := headL 6 (diffL B C).length) (by omega)
  have hD1 : RowIs (rowSet (fu (rowSet S 145 146 (diffL B C)) 147 1 0) 147 148 (headL 6 (diffL B C).length)) 145 146 64 (diffL B C) := hD0.other (by omega) (by omega)
  have e3 := c_addTwo hT1 (n := back) (by omega) hb
  have hT2 := hT1.set (cs := headL 6 (diffL B C).length ++ [back / 256, back % 256]) (by simp; omega)
  have hD2 : RowIs (rowSet (rowSet (fu (rowSet S 145 146 (diffL B C)) 147 1 0) 147 148 (headL 6 (diffL B C).length)) 147 148 (headL 6 (diffL B C).length ++ [back / 256, back % 256])) 145 146 64 (diffL B C) := hD1.other (by omega) (by omega)
  have e4 := c_pack hD2 hT2 (diffL_b (by omega) (by omega) hC.2.2.2.2.1) (by omega) (by omega) (by simp; omega)
  show runv 135 0 [some (.ref 142), some (.ref it), some (.ref it'), some (.int (nI back))] [] (hp S) = _
  simp only [s135_0, s135_1, s135_4, s135_5, s135_8, s135_9, s135_12, s135_15, s135_16, s135_19, s135_22, s135_24, s135_25, s135_28, s135_31, s135_32, s135_35, s135_38, s135_39, s135_42, s135_43, s135_46, s135_47, s135_50, s135_51, s135_54, s135_57, w5, w6, List.length_cons, List.length_nil, Nat.reduceAdd, Nat.reduceLeDiff, Nat.zero_le, t1, t2, t3, t4, c_bytes hB.1, c_bytes hC.1, e1, c_clear0 isRow_t, c_used hD0, show (6 : Int32) = nI 6 from rfl, e2, e3, e4, vbind_some, vpush_some, vpush_none]
  rw [rowSet_grow (by simp), rowSet_grow (by simp), rowSet_fu0]
  rfl
theorem c_keepIfShorter {S : vSt} {ts bs : List Nat} (hT : RowIs S 147 148 64 ts) (hB : RowIs S 149 150 64 bs) : callv 136 [.ref 142] (hp S) = some (none, hp (if ts.length < bs.length then rowSet S 149 150 ts else S)) := by
  have t4 := fun S => rowt (S := S) isRow_t
  have t5 := fun S => rowt (S := S) isRow_b
  have l1 := hT.2.2.2.2.1
  have l2 := hB.2.2.2.2.1
  have hB0 := row_nil (S := S) isRow_b hB.2.2.1 (by omega)
  have hT0 : RowIs (fu S 149 1 0) 147 148 64 ts := hT.fu (by omega)
  have e1 := c_addAll hB0 hT0 (by simp; exact l1)
  rw [List.nil_append, rowSet_fu0] at e1
  show runv 136 0 [some (.ref 142)] [] (hp S) = _
  simp only [s136_0, s136_1, s136_4, s136_7, s136_8, s136_11, s136_14, s136_17, s136_18, s136_21, s136_24, s136_25, s136_28, s136_29, s136_32, s136_35, w6, w7, List.length_cons, List.length_nil, Nat.reduceAdd, Nat.reduceLeDiff, Nat.zero_le, t4, t5, c_used hT, c_used hB, c_clear0 isRow_b, e1, vbind_some, vpush_some, vpush_none]
  by_cases h : ts.length < bs.length
  · rw [if_neg (nI_ge h (by omega)), if_pos h]
  · rw [if_pos (nI_le (by omega) (by omega)), if_neg h]
