/-! writing packs: an entry -/
def wholeE (o : Obj) : List Nat := headL o.1 o.2.length ++ packL o.2
def bestF (os : List Obj) (pk hd : List Nat) (C : Obj) (L : Nat) : Nat → List Nat → List Nat
  | 0, cur => cur
  | j + 1, cur => bestF os pk hd C L j (if (oAt os (pk.getD j 0)).1 = C.1 ∧ (backE (oAt os (pk.getD j 0)).2 C.2 (L - hd.getD j 0)).length < cur.length then backE (oAt os (pk.getD j 0)).2 C.2 (L - hd.getD j 0) else cur)
theorem bestF_len (os : List Obj) (pk hd : List Nat) (C : Obj) (L : Nat) : ∀ n cur, (bestF os pk hd C L n cur).length ≤ cur.length := by
  intro n
  induction n with
  | zero => intro cur; exact Nat.le_refl _
  | succ n ih =>
    intro cur
    unfold bestF
    refine Nat.le_trans (ih _) ?_
    split
    · rename_i h; omega
    · exact Nat.le_refl _
def WIn (S : vSt) (os : List Obj) (pk hd ob : List Nat) : Prop := ShelfIs S 4 16 os ∧ RowIs S 2 3 500 ob ∧ PkIs S pk ∧ (∀ p ∈ pk, p < os.length) ∧ (S.2 144).length = 16 ∧ (S.2 144).take hd.length = hd.map nI ∧ hd.length ≤ 16 ∧ (S.2 146).length = 64 ∧ (S.2 148).length = 64 ∧ (S.2 150).length = 64
theorem WIn.agr {S S1 : vSt} {os : List Obj} {pk hd ob : List Nat} (h : WIn S os pk hd ob) (e1 : Agr S S1 2 145) (e2 : (S1.2 146).length = 64) (e3 : (S1.2 148).length = 64) (e4 : (S1.2 150).length = 64) : WIn S1 os pk hd ob := by
  obtain ⟨h1, h2, h3, h4, h5, h6, h7, h8, h9, h10⟩ := h
  obtain ⟨r1, r2, r3, r4, r5, r6⟩ := h2
  obtain ⟨p1, p2, p3, p4⟩ := h3
  have a2 := e1 2 (by omega) (by omega)
  have a3 := e1 3 (by omega) (by omega)
  have a142 := e1 142 (by omega) (by omega)
  have a143 := e1 143 (by omega) (by omega)
  have a144 := e1 144 (by omega) (by omega)
  exact ⟨h1.agr (e1.sub (by omega) (by omega)), ⟨r1, by rw [a2.1, r2], by rw [a3.2, r3], by rw [a3.2, r4], r5, r6⟩, ⟨by rw [a142.1, p1], by rw [a143.2, p2], by rw [a143.2, p3], p4⟩, h4, by rw [a144.2, h5], by rw [a144.2, h6], h7, e2, e3, e4⟩
theorem PkIs.get {S : vSt} {pk : List Nat} {i : Nat} (h : PkIs S pk) (hi : i < pk.length) : (S.2 143).getD i 0 = nI (pk.getD i 0) := by
  have e : ((S.2 143).take pk.length)[i]? = (pk.map nI)[i]? := by rw [h.2.2.1]
  rw [List.getElem?_take_of_lt hi, List.getElem?_map] at e
  rw [List.getD_eq_getElem?_getD, e, List.getD_eq_getElem?_getD, List.getElem?_eq_getElem hi]
  rfl
theorem WIn.head {S : vSt} {os : List Obj} {pk hd ob : List Nat} {i : Nat} (h : WIn S os pk hd ob) (hi : i < hd.length) : (S.2 144).getD i 0 = nI (hd.getD i 0) := by
  have e : ((S.2 144).take hd.length)[i]? = (hd.map nI)[i]? := by rw [h.2.2.2.2.2.1]
  rw [List.getElem?_take_of_lt hi, List.getElem?_map] at e
  rw [List.getD_eq_getElem?_getD, e, List.getD_eq_getElem?_getD, List.getElem?_eq_getElem hi]
  rfl
theorem mem_getD {l : List Nat} {i : Nat} (h : i < l.length) : l.getD i 0 ∈ l := by
  rw [List.getD_eq_getElem?_getD, List.getElem?_eq_getElem h]
  exact List.getElem_mem h
theorem oAt_get {os : List Obj} {p : Nat} (h : p < os.length) : os[p]? = some (oAt os p) := by
  rw [oAt, List.getD_eq_getElem?_getD, List.getElem?_eq_getElem h]
  rfl
def Wout (S S1 : vSt) : Prop := Agr S S1 4 142 ∧ Agr S S1 151 1000
theorem Wout.tr {S S1 S2 : vSt} (h : Wout S S1) (h2 : Wout S1 S2) : Wout S S2 := ⟨h.1.tr h2.1, h.2.tr h2.2⟩
theorem c_entry_loop {os : List Obj} {pk hd ob : List Nat} {i : Nat} (hi : i + 1 = hd.length) (hip : i < pk.length) (hL : hd.getD i 0 = ob.length) (hmono : ∀ x ∈ hd, x ≤ ob.length) (hob : ob.length + 32 ≤ 500) : ∀ n cur T v4, n ≤ i → WIn T os pk hd ob → RowIs T 149 150 64 cur → cur.length ≤ 32 → ∃ T1, runv 134 67 [some (.ref 142), some (.int (nI i)), some (.ref (4 + 2 + 3 * pk.getD i 0)), some (.int (nI n - 1)), v4] [] (hp T) = some (none, hp T1) ∧ WIn T1 os pk hd (ob ++ bestF os pk hd (oAt os (pk.getD i 0)) ob.length n cur) ∧ Wout T T1 := by
  intro n
  induction n with
  | zero =>
    intro cur T v4 hn hW hB hc
    have t2 := fun S => rowt (S := S) isRow_o
    have hW0 := hW
    obtain ⟨h1, h2, h3, h4, h5, h6, h7, h8, h9, h10⟩ := hW
    have e1 := c_addAll h2 hB (by omega)
    rw [s134_67]
    simp only [s134_0, s134_1, s134_4, s134_5, s134_8, s134_9, s134_10, s134_13, s134_14, s134_15, s134_18, s134_19, s134_20, s134_23, s134_26, s134_27, s134_28, s134_31, s134_34, s134_35, s134_38, s134_39, s134_42, s134_45, s134_46, s134_49, s134_52, s134_53, s134_56, s134_57, s134_60, s134_63, s134_64, s134_65, s134_66, s134_68, s134_71, s134_72, s134_75, s134_76, s134_79, s134_80, s134_81, s134_84, s134_86, s134_88, s134_91, s134_92, s134_95, s134_98, s134_99, s134_101, s134_102, s134_103, s134_106, s134_107, s134_108, s134_109, s134_112, s134_113, s134_114, s134_115, s134_118, s134_119, s134_122, s134_125, s134_128, s134_129, s134_132, s134_133, s134_136, s134_139, w1, w7, List.length_cons, List.length_nil, Nat.reduceAdd, Nat.reduceLeDiff, Nat.zero_le, t2, e1, vbind_some, vpush_some, vpush_none]
    rw [if_pos (show nI 0 - 1 < 0 by decide)]
    refine ⟨_, rfl, ?_, Agr.row (by omega) (by omega), Agr.row (by omega) (by omega)⟩
    have ag : Agr T (rowSet T 2 3 (ob ++ cur)) 4 151 := Agr.row (by omega) (by omega)
    have a142 := ag 142 (by omega) (by omega)
    have a143 := ag 143 (by omega) (by omega)
    have a144 := ag 144 (by omega) (by omega)
    obtain ⟨p1, p2, p3, p4⟩ := h3
    exact ⟨h1.agr (ag.sub (by omega) (by omega)), h2.set (by simp; omega), ⟨by rw [a142.1, p1], by rw [a143.2, p2], by rw [a143.2, p3], p4⟩, h4, by rw [a144.2, h5], by rw [a144.2, h6], h7, by rw [(ag 146 (by omega) (by omega)).2, h8], by rw [(ag 148 (by omega) (by omega)).2, h9], by rw [(ag 150 (by omega) (by omega)).2, h10]⟩
  | succ n ih =>
    intro cur T v4 hn hW hB hc
    have t2 := fun S => sht (S := S) isShelf_s
    have t3 := fun S => wt (S := S)
    have hW0 := hW
    obtain ⟨h1, h2, h3, h4, h5, h6, h7, h8, h9, h10⟩ := hW
    have hpj : pk.getD n 0 < os.length := h4 _ (mem_getD (by omega))
    have hpi : pk.getD i 0 < os.length := h4 _ (mem_getD hip)
    have hle := h1.2.1
    have hj := h1.2.2.2.1 _ _ (oAt_get hpj)
    have hC := h1.2.2.2.1 _ _ (oAt_get hpi)
    have t4 := itt (S := T) hj.1
    have t5 := itt (S := T) hC.1
    have kj := hj.2.2.2.2.2
    have kc := hC.2.2.2.2.2
    have hpk := h3.2.2.2
    have hm : hd.getD n 0 ≤ ob.length := hmono _ (mem_getD (by omega))
    have eh1 := hW0.head (i := i) (by omega)
    have eh2 := hW0.head (i := n) (by omega)
    rw [hL] at eh1
    have edge : nI (n + 1) - 1 = nI n := nI_pred n
    rw [s134_67, edge]
    simp only [s134_0, s134_1, s134_4, s134_5, s134_8, s134_9, s134_10, s134_13, s134_14, s134_15, s134_18, s134_19, s134_20, s134_23, s134_26, s134_27, s134_28, s134_31, s134_34, s134_35, s134_38, s134_39, s134_42, s134_45, s134_46, s134_49, s134_52, s134_53, s134_56, s134_57, s134_60, s134_63, s134_64, s134_65, s134_66, s134_68, s134_71, s134_72, s134_75, s134_76, s134_79, s134_80, s134_81, s134_84, s134_86, s134_88, s134_91, s134_92, s134_95, s134_98, s134_99, s134_101, s134_102, s134_103, s134_106, s134_107, s134_108, s134_109, s134_112, s134_113, s134_114, s134_115, s134_118, s134_119, s134_122, s134_125, s134_128, s134_129, s134_132, s134_133, s134_136, s134_139, w0, w2]
    rw [if_neg (nI_pos (by omega)), arg sk143 (by rw [h3.2.1]; omega) (by rw [h3.2.1]; omega), h3.get (by omega)]
    simp only [s134_0, s134_1, s134_4, s134_5, s134_8, s134_9, s134_10, s134_13, s134_14, s134_15, s134_18, s134_19, s134_20, s134_23, s134_26, s134_27, s134_28, s134_31, s134_34, s134_35, s134_38, s134_39, s134_42, s134_45, s134_46, s134_49, s134_52, s134_53, s134_56, s134_57, s134_60, s134_63, s134_64, s134_65, s134_66, s134_68, s134_71, s134_72, s134_75, s134_76, s134_79, s134_80, s134_81, s134_84, s134_86, s134_88, s134_91, s134_92, s134_95, s134_98, s134_99, s134_101, s134_102, s134_103, s134_106, s134_107, s134_108, s134_109, s134_112, s134_113, s134_114, s134_115, s134_118, s134_119, s134_122, s134_125, s134_128, s134_129, s134_132, s134_133, s134_136, s134_139, List.length_cons, List.length_nil, Nat.reduceAdd, Nat.reduceLeDiff, Nat.zero_le, t2, t4, t5, c_shGet h1.1 (show pk.getD n 0 < 16 by omega), c_sort hj.1, c_sort hC.1, hj.2.2.1, hC.2.2.1, vbind_some, vpush_some, nI_inj (show (oAt os (pk.getD n 0)).1 < 2 ^ 31 by omega) (show (oAt os (pk.getD i 0)).1 < 2 ^ 31 by omega), w3]
    have edec : nI n + -1 = nI n - 1 := (Int32.sub_eq_add_neg (nI n) 1).symm
    simp only [edec]
    rw [bestF]
    by_cases hk : (oAt os (pk.getD n 0)).1 = (oAt os (pk.getD i 0)).1
    · rw [if_pos hk, arg sk144 (by rw [h5]; omega) (by rw [h5]; omega), eh1]
      rw [arg sk144 (by rw [h5]; omega) (by rw [h5]; omega), eh2]
      have e1 := c_writeByBack hj hC h8 h9 (back := ob.length - hd.getD n 0) (by omega) (by omega) (by omega) (by omega) (by omega)
      have hbl := backE_len (B := (oAt os (pk.getD n 0)).2) (C := (oAt os (pk.getD i 0)).2) (back := ob.length - hd.getD n 0) hC.2.1.2.2.2.2.1
      have hdl := diffL_len (oAt os (pk.getD n 0)).2 (oAt os (pk.getD i 0)).2
      have hc5 := hC.2.1.2.2.2.2.1
      generalize hE : backE (oAt os (pk.getD n 0)).2 (oAt os (pk.getD i 0)).2 (ob.length - hd.getD n 0) = E at e1 hbl ⊢
      generalize diffL (oAt os (pk.getD n 0)).2 (oAt os (pk.getD i 0)).2 = Dl at e1 hdl
      have dlen : ((rowSet T 145 146 Dl).2 146).length = 64 := by
        simp only [rowSet, au_at, List.length_append, List.length_map, List.length_drop]
        omega
      have hT0 : RowIs (rowSet (rowSet T 145 146 Dl) 147 148 E) 147 148 64 E := by
        have a : ((rowSet T 145 146 Dl).2 148).length = 64 := by
          rw [((Agr.row (S := T) (r := 145) (a := 146) (bs := Dl) (lo := 148) (hi := 149) (by omega) (by omega)) 148 (by omega) (by omega)).2, h9]
        have := (row_nil (S := rowSet T 145 146 Dl) isRow_t a (by omega)).set (cs := E) (by omega)
        rwa [rowSet_fu0] at this
      have hB0 : RowIs (rowSet (rowSet T 145 146 Dl) 147 148 E) 149 150 64 cur := (hB.other (by omega) (by omega)).other (by omega) (by omega)
      have e2 := c_keepIfShorter hT0 hB0
      simp only [s134_0, s134_1, s134_4, s134_5, s134_8, s134_9, s134_10, s134_13, s134_14, s134_15, s134_18, s134_19, s134_20, s134_23, s134_26, s134_27, s134_28, s134_31, s134_34, s134_35, s134_38, s134_39, s134_42, s134_45, s134_46, s134_49, s134_52, s134_53, s134_56, s134_57, s134_60, s134_63, s134_64, s134_65, s134_66, s134_68, s134_71, s134_72, s134_75, s134_76, s134_79, s134_80, s134_81, s134_84, s134_86, s134_88, s134_91, s134_92, s134_95, s134_98, s134_99, s134_101, s134_102, s134_103, s134_106, s134_107, s134_108, s134_109, s134_112, s134_113, s134_114, s134_115, s134_118, s134_119, s134_122, s134_125, s134_128, s134_129, s134_132, s134_133, s134_136, s134_139, pk_sub hm, List.length_cons, List.length_nil, Nat.reduceAdd, Nat.reduceLeDiff, Nat.zero_le, t3, e1, e2, vbind_some, vpush_none, edec]
      have hwo : Wout T (rowSet (rowSet T 145 146 Dl) 147 148 E) := ⟨(Agr.row (by omega) (by omega)).tr (Agr.row (by omega) (by omega)), (Agr.row (by omega) (by omega)).tr (Agr.row (by omega) (by omega))⟩
      have u146 : ((rowSet (rowSet T 145 146 Dl) 147 148 E).2 146).length = 64 := by
        rw [((Agr.row (S := rowSet T 145 146 Dl) (r := 147) (a := 148) (bs := E) (lo := 146) (hi := 147) (by omega) (by omega)) 146 (by omega) (by omega)).2, dlen]
      have hWU : WIn (rowSet (rowSet T 145 146 Dl) 147 148 E) os pk hd ob := hW0.agr ((Agr.row (by omega) (by omega)).tr (Agr.row (by omega) (by omega))) u146 hT0.2.2.1 hB0.2.2.1
      by_cases hs : E.length < cur.length
      · rw [if_pos hs, if_pos ⟨hk, hs⟩]
        have agV : Agr (rowSet (rowSet T 145 146 Dl) 147 148 E) (rowSet (rowSet (rowSet T 145 146 Dl) 147 148 E) 149 150 E) 2 149 := Agr.row (by omega) (by omega)
        have hBV : RowIs (rowSet (rowSet (rowSet T 145 146 Dl) 147 148 E) 149 150 E) 149 150 64 E := hB0.set (by omega)
        have hWV := hWU.agr (S1 := rowSet (rowSet (rowSet T 145 146 Dl) 147 148 E) 149 150 E) (agV.sub (by omega) (by omega)) (by rw [(agV 146 (by omega) (by omega)).2, u146]) (by rw [(agV 148 (by omega) (by omega)).2]; exact hT0.2.2.1) hBV.2.2.1
        obtain ⟨T1, g1, g2, g3⟩ := ih E _ (some (.ref (4 + 2 + 3 * pk.getD n 0))) (by omega) hWV hBV (by omega)
        exact ⟨T1, g1, g2, (hwo.tr ⟨agV.sub (by omega) (by omega), Agr.row (by omega) (by omega)⟩).tr g3⟩
      · rw [if_neg hs, if_neg (fun q => hs q.2)]
        obtain ⟨T1, g1, g2, g3⟩ := ih cur _ (some (.ref (4 + 2 + 3 * pk.getD n 0))) (by omega) hWU hB0 hc
        exact ⟨T1, g1, g2, hwo.tr g3⟩
    · rw [if_neg hk, if_neg (fun q => hk q.1)]
      exact ih cur T _ (by omega) hW0 hB hc
theorem c_writeEntry {S : vSt} {os : List Obj} {pk hd ob : List Nat} (hW : WIn S os pk hd ob) (hip : hd.length < pk.length) (hmono : ∀ x ∈ hd, x ≤ ob.length) (hob : ob.length + 32 ≤ 500) : ∃ S1, callv 134 [.ref 142, .int (nI hd.length)] (hp S) = some (none, hp S1) ∧ WIn S1 os pk (hd ++ [ob.length]) (ob ++ bestF os pk (hd ++ [ob.length]) (oAt os (pk.getD hd.length 0)) ob.length hd.length (wholeE (oAt os (pk.getD hd.length 0)))) ∧ Wout S S1 := by
  have hW0 := hW
  obtain ⟨h1, h2, h3, h4, h5, h6, h7, h8, h9, h10⟩ := hW
  have hpk := h3.2.2.2
  have hpi : pk.getD hd.length 0 < os.length := h4 _ (mem_getD hip)
  have hle := h1.2.1
  have t2 := fun S => sht (S := S) isShelf_s
  have t3 := fun S => rowt (S := S) isRow_o
  have t4 := fun S => rowt (S := S) isRow_b
  have agA : ∀ lo hi, hi ≤ 144 ∨ 145 ≤ lo → Agr S (au S 144 ((S.2 144).set hd.length (nI ob.length))) lo hi := fun lo hi h => Agr.au (by omega)
  have hWA : WIn (au S 144 ((S.2 144).set hd.length (nI ob.length))) os pk (hd ++ [ob.length]) ob := by
    have a2 := agA 2 4 (by omega)
    obtain ⟨r1, r2, r3, r4, r5, r6⟩ := h2
    obtain ⟨p1, p2, p3, p4⟩ := h3
    have a143 := (agA 143 144 (by omega)) 143 (by omega) (by omega)
    refine ⟨h1.agr (agA _ _ (by omega)), ⟨r1, by rw [au_1, r2], by rw [(a2 3 (by omega) (by omega)).2, r3], by rw [(a2 3 (by omega) (by omega)).2, r4], r5, r6⟩, ⟨by rw [au_1, p1], by rw [a143.2, p2], by rw [a143.2, p3], p4⟩, h4, ?_, ?_, by simp; omega, by rw [au_a _ _ (by omega), h8], by rw [au_a _ _ (by omega), h9], by rw [au_a _ _ (by omega), h10]⟩
    · rw [au_at, List.length_set, h5]
    · rw [au_at, set_app h6 (by omega), List.take_left' (by simp), List.map_append]
      rfl
  generalize hSA : au S 144 ((S.2 144).set hd.length (nI ob.length)) = A at hWA
  have hCA := hWA.1.2.2.2.1 _ _ (oAt_get hpi)
  have hBA := row_nil (S := A) isRow_b hWA.2.2.2.2.2.2.2.2.2 (by omega)
  have hCB : ItemIs (fu A 149 1 0) _ _ _ _ _ := hCA.congr (fun j => by rw [fu_a _ _ (by omega)]) (fun j => by rw [fu_a _ _ (by omega)]) rfl
  have c5 := hCA.2.1.2.2.2.2.1
  have kc := hCA.2.2.2.2.2
  have t5 := itt (S := S) hCA.1
  have t6 := itt (S := fu A 149 1 0) hCA.1
  have t7 := rowt (S := fu A 149 1 0) hCA.1.2
  have hl2 := headL_len (oAt os (pk.getD hd.length 0)).1 (oAt os (pk.getD hd.length 0)).2.length
  have pl := packL_len (bs := (oAt os (pk.getD hd.length 0)).2) (by omega)
  have e1 := c_writeHead hBA (s := (oAt os (pk.getD hd.length 0)).1) (z := (oAt os (pk.getD hd.length 0)).2.length) (by omega) (by omega) (by simp)
  rw [List.nil_append] at e1
  have hB1 := hBA.set (cs := headL (oAt os (pk.getD hd.length 0)).1 (oAt os (pk.getD hd.length 0)).2.length) (by omega)
  generalize hX : rowSet (fu A 149 1 0) 149 150 (headL (oAt os (pk.getD hd.length 0)).1 (oAt os (pk.getD hd.length 0)).2.length) = X at e1 hB1
  have agX : Agr A X 2 149 := by rw [← hX]; exact (Agr.fu (by omega)).tr (Agr.row (by omega) (by omega))
  have agX2 : Agr A X 151 1000 := by rw [← hX]; exact (Agr.fu (by omega)).tr (Agr.row (by omega) (by omega))
  have hCX : ItemIs X _ _ _ _ _ := hCA.congr (fun j => (agX _ (by omega) (by omega)).1 j) (fun j => (agX _ (by omega) (by omega)).1 j) (agX _ (by omega) (by omega)).2
  have t8 := itt (S := X) hCA.1
  have e2 := c_pack hCX.2.1 hB1 hCX.2.2.2.2.1 (by omega) (by omega) (by omega)
  have hB2 := hB1.set (cs := headL (oAt os (pk.getD hd.length 0)).1 (oAt os (pk.getD hd.length 0)).2.length ++ packL (oAt os (pk.getD hd.length 0)).2) (by rw [List.length_append]; omega)
  generalize hY : rowSet X 149 150 (headL (oAt os (pk.getD hd.length 0)).1 (oAt os (pk.getD hd.length 0)).2.length ++ packL (oAt os (pk.getD hd.length 0)).2) = Y at e2 hB2
  have agY : Agr A Y 2 149 := by rw [← hY]; exact agX.tr (Agr.row (by omega) (by omega))
  have agY2 : Agr A Y 151 1000 := by rw [← hY]; exact agX2.tr (Agr.row (by omega) (by omega))
  have hWY := hWA.agr (S1 := Y) (agY.sub (by omega) (by omega)) (by rw [(agY 146 (by omega) (by omega)).2]; exact hWA.2.2.2.2.2.2.2.1) (by rw [(agY 148 (by omega) (by omega)).2]; exact hWA.2.2.2.2.2.2.2.2.1) hB2.2.2.1
  obtain ⟨T1, g1, g2, g3⟩ := c_entry_loop (os := os) (pk := pk) (hd := hd ++ [ob.length]) (ob := ob) (i := hd.length) (by simp) hip (by simp [List.getD_eq_getElem?_getD]) (by intro x hx; rcases List.mem_append.mp hx with q | q; exact hmono x q; rw [List.mem_singleton.mp q]; exact Nat.le_refl _) hob hd.length _ Y none (Nat.le_refl _) hWY hB2 (by rw [List.length_append]; omega)
  refine ⟨T1, ?_, g2, (Wout.tr (S1 := A) ⟨by rw [← hSA]; exact agA _ _ (by omega), by rw [← hSA]; exact agA _ _ (by omega)⟩ ⟨agY.sub (by omega) (by omega), agY2⟩).tr g3⟩
  show runv 134 0 [some (.ref 142), some (.int (nI hd.length)), none, none, none] [] (hp S) = _
  simp only [s134_0, s134_1, s134_4, s134_5, s134_8, s134_9, s134_10, s134_13, s134_14, s134_15, s134_18, s134_19, s134_20, s134_23, s134_26, s134_27, s134_28, s134_31, s134_34, s134_35, s134_38, s134_39, s134_42, s134_45, s134_46, s134_49, s134_52, s134_53, s134_56, s134_57, s134_60, s134_63, s134_64, s134_65, s134_66, w0, w2]
  rw [arg sk143 (by rw [h3.2.1]; omega) (by rw [h3.2.1]; omega), h3.get hip]
  simp only [s134_0, s134_1, s134_4, s134_5, s134_8, s134_9, s134_10, s134_13, s134_14, s134_15, s134_18, s134_19, s134_20, s134_23, s134_26, s134_27, s134_28, s134_31, s134_34, s134_35, s134_38, s134_39, s134_42, s134_45, s134_46, s134_49, s134_52, s134_53, s134_56, s134_57, s134_60, s134_63, s134_64, s134_65, s134_66, w1, w3, List.length_cons, List.length_nil, Nat.reduceAdd, Nat.reduceLeDiff, Nat.zero_le, t2, t3, c_shGet h1.1 (show pk.getD hd.length 0 < 16 by omega), c_used h2, vbind_some, vpush_some]
  rw [arst sk144 (by rw [h5]; omega) (by rw [h5]; omega), hSA]
  simp only [s134_0, s134_1, s134_4, s134_5, s134_8, s134_9, s134_10, s134_13, s134_14, s134_15, s134_18, s134_19, s134_20, s134_23, s134_26, s134_27, s134_28, s134_31, s134_34, s134_35, s134_38, s134_39, s134_42, s134_45, s134_46, s134_49, s134_52, s134_53, s134_56, s134_57, s134_60, s134_63, s134_64, s134_65, s134_66, w1, w3, w7, List.length_cons, List.length_nil, Nat.reduceAdd, Nat.reduceLeDiff, Nat.zero_le, t4, t6, t7, t8, c_clear0 isRow_b, c_sort hCA.1, c_bytes hCA.1, hCB.2.2.1, c_used hCB.2.1, e1, e2, vbind_some, vpush_some, vpush_none]
  exact g1
