/-! reading packs: bases, runs -/
def Fr (S S1 : vSt) (P : Nat → Nat → Prop) (A : Nat → Prop) : Prop := (∀ b j, ¬ P b j → S1.1 b j = S.1 b j) ∧ ∀ b, ¬ A b → S1.2 b = S.2 b
theorem Fr.rf {S : vSt} {P : Nat → Nat → Prop} {A : Nat → Prop} : Fr S S P A := ⟨fun _ _ _ => rfl, fun _ _ => rfl⟩
theorem Fr.tr {S S1 S2 : vSt} {P : Nat → Nat → Prop} {A : Nat → Prop} (h : Fr S S1 P A) (h2 : Fr S1 S2 P A) : Fr S S2 P A := ⟨fun b j hq => (h2.1 b j hq).trans (h.1 b j hq), fun b hq => (h2.2 b hq).trans (h.2 b hq)⟩
theorem Fr.mono {S S1 : vSt} {P Q : Nat → Nat → Prop} {A B : Nat → Prop} (h : Fr S S1 P A) (hP : ∀ b j, P b j → Q b j) (hA : ∀ b, A b → B b) : Fr S S1 Q B := ⟨fun b j hq => h.1 b j (fun z => hq (hP b j z)), fun b hq => h.2 b (fun z => hq (hA b z))⟩
theorem Upd.fr {S S1 : vSt} {P : Nat → Nat → Prop} {A : Nat → Prop} (h : Upd S S1 P) : Fr S S1 P A := ⟨h.1, fun b _ => by rw [h.2]⟩
theorem Fr.fu {S : vSt} {P : Nat → Nat → Prop} {A : Nat → Prop} {a k : Nat} {x : Int32} (h : P a k) : Fr S (fu S a k x) P A := (Upd.fu h).fr
theorem Fr.row {S : vSt} {P : Nat → Nat → Prop} {A : Nat → Prop} {r a : Nat} {bs : List Nat} (h : P r 1) (ha : A a) : Fr S (rowSet S r a bs) P A := by
  refine ⟨fun b j hq => ?_, fun b hq => ?_⟩
  · by_cases hb : b = r
    · by_cases hj : j = 1
      · subst hb; subst hj; exact absurd h hq
      · rw [rowSet, au_1, fu_k _ _ hj]
    · rw [rowSet, au_1, fu_a _ _ hb]
  · have hb : b ≠ a := fun e => hq (e ▸ ha)
    rw [rowSet, au_a _ _ hb, fu_2]
theorem RowIs.fr {S S1 : vSt} {P : Nat → Nat → Prop} {A : Nat → Prop} {r a N : Nat} {bs : List Nat} (h : RowIs S r a N bs) (hu : Fr S S1 P A) (hp0 : ¬ P r 1) (ha : ¬ A a) : RowIs S1 r a N bs := by
  obtain ⟨h1, h2, h3, h4, h5, h6⟩ := h
  exact ⟨h1, by rw [hu.1 r 1 hp0, h2], by rw [hu.2 a ha, h3], by rw [hu.2 a ha, h4], h5, h6⟩
theorem c_entryAt_loop {S : vSt} {q : Int32} {hs : List Nat} (hn : S.1 151 3 = nI hs.length) (h16 : hs.length ≤ 16) (hh : ∀ i, i < hs.length → S.1 (153 + 6 * i) 2 = nI (hs.getD i 0)) : ∀ k i, i + k = hs.length → runv 118 2 [some (.ref 151), some (.int q), some (.int (nI i))] [] (hp S) = some (some (.int (oI (((hs.drop i).findIdx? (fun h => decide (nI h = q))).map (fun j => i + j)))), hp S) := by
  intro k
  induction k with
  | zero =>
    intro i hi
    rw [s118_2]
    simp only [s118_0, s118_1, s118_3, s118_4, s118_7, s118_10, s118_11, s118_14, s118_15, s118_16, s118_19, s118_20, s118_23, s118_24, s118_25, s118_28, s118_31, s118_32, r3, hn]
    rw [if_pos (nI_le (by omega) (by omega)), List.drop_of_length_le (by omega)]
    rfl
  | succ k ih =>
    intro i hi
    have hil : i < hs.length := by omega
    rw [s118_2]
    simp only [s118_0, s118_1, s118_3, s118_4, s118_7, s118_10, s118_11, s118_14, s118_15, s118_16, s118_19, s118_20, s118_23, s118_24, s118_25, s118_28, s118_31, s118_32, r2, r3, hn, re_get (show i < 16 by omega), n2 (isEnt_e (show i < 16 by omega)), hh i hil, nI_1]
    rw [if_neg (nI_ge (by omega) (by omega)), ih (i + 1) (by omega), drop_cons hil, List.findIdx?_cons]
    by_cases hq : nI (hs.getD i 0) = q
    · rw [if_pos hq, if_pos (decide_eq_true hq)]
      rfl
    · rw [if_neg hq, if_neg (by simp only [decide_eq_true_eq]; exact hq)]
      cases List.findIdx? (fun h => decide (nI h = q)) (hs.drop (i + 1)) with
      | none => rfl
      | some j =>
        simp only [Option.map_some, oI]
        rw [show i + 1 + j = i + (j + 1) by omega]
theorem c_entryAt {S : vSt} {q : Int32} {hs : List Nat} (hn : S.1 151 3 = nI hs.length) (h16 : hs.length ≤ 16) (hh : ∀ i, i < hs.length → S.1 (153 + 6 * i) 2 = nI (hs.getD i 0)) : callv 118 [.ref 151, .int q] (hp S) = some (some (.int (oI (hs.findIdx? (fun h => decide (nI h = q))))), hp S) := by
  show runv 118 0 [some (.ref 151), some (.int q), none] [] (hp S) = _
  simp only [s118_0, s118_1]
  rw [show (0 : Int32) = nI 0 from rfl, c_entryAt_loop hn h16 hh hs.length 0 (by omega), List.drop_zero]
  cases hs.findIdx? (fun h => decide (nI h = q)) with
  | none => rfl
  | some j => simp only [Option.map_some, Nat.zero_add]
def hdIdx (hs : List Nat) (hd n : Nat) : Option Nat := hs.findIdx? fun h => decide (h + n = hd)
theorem hdIdx_eq {hs : List Nat} {hd n : Nat} (hb : ∀ h ∈ hs, h ≤ 1000) (hhd : hd ≤ 1000) (hn : n < 65536) : hs.findIdx? (fun h => decide (nI h = nI hd - nI n)) = hdIdx hs hd n := by
  unfold hdIdx
  induction hs with
  | nil => rfl
  | cons h t ih =>
    rw [List.findIdx?_cons, List.findIdx?_cons, ih (fun x hx => hb x (List.mem_cons_of_mem _ hx))]
    have hh := hb h List.mem_cons_self
    have e : decide (nI h = nI hd - nI n) = decide (h + n = hd) := by
      apply decide_eq_decide.mpr
      have e1 := pk_sub_toInt (a := hd) (b := n) (by omega) (by omega)
      have e2 := nI_toInt (n := h) (by omega)
      constructor
      · intro q
        have : (nI h).toInt = (nI hd - nI n).toInt := by rw [q]
        omega
      · intro q
        apply Int32.toInt_inj.mp
        omega
    rw [e]
def rdBase (bs hs : List Nat) (hd s p : Nat) : Nat ⊕ (Nat × Nat) :=
  if s ≤ 3 then .inr (0, p)
  else if p < bs.length then
    if p + 1 < bs.length then
      if s = 7 then .inr (bs.getD p 0 * 256 + bs.getD (p + 1) 0, p + 2)
      else match hdIdx hs hd (bs.getD p 0 * 256 + bs.getD (p + 1) 0) with
        | some i => .inr (i, p + 2)
        | none => .inl (p + 1)
    else .inl (p + 1)
  else .inl p
def PBs (ec : Nat) : Nat → Nat → Prop := fun b j => (b = 151 ∧ (j = 4 ∨ j = 5)) ∨ (b = ec ∧ j = 5)
theorem findIdx_lt {hs : List Nat} {f : Nat → Bool} {i : Nat} (h : hs.findIdx? f = some i) : i < hs.length := (List.findIdx?_eq_some_iff_getElem.mp h).1
theorem c_readBase {S : vSt} {pl ec s hd : Nat} {bs hs : List Nat} (he : isEnt ec) (hec : 151 < ec) (hB : RowIs S 2 3 500 bs) (bb : ∀ x ∈ bs, x < 256) (hpl : S.1 151 4 = nI pl) (hp0 : pl ≤ 600) (hs3 : S.1 ec 3 = nI s) (hs7 : s ≤ 7) (h2 : S.1 ec 2 = nI hd) (hhd : hd ≤ 1000) (hn : S.1 151 3 = nI hs.length) (h16 : hs.length ≤ 16) (hh : ∀ i, i < hs.length → S.1 (153 + 6 * i) 2 = nI (hs.getD i 0)) (hhb : ∀ h ∈ hs, h ≤ 1000) : ∃ S1, Upd S S1 (PBs ec) ∧ match rdBase bs hs hd s pl with
    | .inl f => callv 117 [.ref 151, .ref ec] (hp S) = some (some (.int 0), hp S1) ∧ S1.1 151 5 = nI f
    | .inr (b, p1) => callv 117 [.ref 151, .ref ec] (hp S) = some (some (.int 1), hp S1) ∧ S1.1 151 4 = nI p1 ∧ (3 < s → S1.1 ec 5 = nI b) := by
  have b5 := hB.2.2.2.2.1
  have t1 := fun S => rtR (S := S)
  have t2 := fun S => nt (S := S) he
  have hx := getD_lt bb pl
  have hx1 := getD_lt bb (pl + 1)
  have Q4 : PBs ec 151 4 := Or.inl ⟨rfl, Or.inl rfl⟩
  have Q5 : PBs ec 151 5 := Or.inl ⟨rfl, Or.inr rfl⟩
  have P5 : PBs ec ec 5 := Or.inr ⟨rfl, rfl⟩
  have ew := c_isWhole he hs3 (by omega)
  have e1 := c_next hB bb hpl (by omega) (lo := 0) (hi := 255) (by omega) (by omega)
  have start : callv 117 [.ref 151, .ref ec] (hp S) = if decide (s ≤ 3) = true then some (some (.int 1), hp S) else vbind (callv 112 [.ref 151, .int (nI 0), .int (nI 255)] (hp S)) (fun v h' => runv 117 17 [some (.ref 151), some (.ref ec), none, none, none] (vpush v []) h') := by
    show runv 117 0 [some (.ref 151), some (.ref ec), none, none, none] [] (hp S) = _
    simp only [s117_0, n117_0, s117_1, s117_4, s117_7, s117_8, s117_9, s117_10, s117_11, s117_14, List.length_cons, List.length_nil, Nat.reduceAdd, Nat.reduceLeDiff, Nat.zero_le, t1, t2, ew, vbind_some, vpush_some, if_bI, vb1]
    rfl
  rw [start]
  unfold rdBase
  by_cases hw : s ≤ 3
  · rw [if_pos hw, if_pos (decide_eq_true hw)]
    exact ⟨S, Upd.rf, rfl, hpl, fun q => by omega⟩
  · rw [if_neg hw, if_neg (show ¬ decide (s ≤ 3) = true by simp [hw]), e1]
    by_cases h1 : pl < bs.length
    · rw [if_pos (show pl < bs.length ∧ 0 ≤ bs.getD pl 0 ∧ bs.getD pl 0 ≤ 255 from ⟨h1, Nat.zero_le _, by omega⟩), if_pos h1]
      generalize hxe : bs.getD pl 0 = x at *
      have hB1 : RowIs (fu S 151 4 (nI (pl + 1))) 2 3 500 bs := hB.fu (by omega)
      have e2 := c_next hB1 bb (fu_at _ _ _ _) (by omega) (lo := 0) (hi := 255) (by omega) (by omega)
      have mid : vbind (some (some (.int (nI x)), hp (fu S 151 4 (nI (pl + 1))))) (fun v h' => runv 117 17 [some (.ref 151), some (.ref ec), none, none, none] (vpush v []) h') = vbind (callv 112 [.ref 151, .int (nI 0), .int (nI 255)] (hp (fu S 151 4 (nI (pl + 1))))) (fun v h' => runv 117 34 [some (.ref 151), some (.ref ec), some (.int (nI x)), none, none] (vpush v []) h') := by
        simp only [vbind_some, vpush_some, s117_17, s117_18, s117_19]
        rw [if_pos (nI_pos' (by omega))]
        simp only [s117_26, s117_27, s117_28, s117_31, List.length_cons, List.length_nil, Nat.reduceAdd, Nat.reduceLeDiff, Nat.zero_le, t1]
        rfl
      rw [mid, e2]
      by_cases h2' : pl + 1 < bs.length
      · rw [if_pos (show pl + 1 < bs.length ∧ 0 ≤ bs.getD (pl + 1) 0 ∧ bs.getD (pl + 1) 0 ≤ 255 from ⟨h2', Nat.zero_le _, by omega⟩), if_pos h2']
        generalize bs.getD (pl + 1) 0 = y at *
        generalize hA : fu (fu S 151 4 (nI (pl + 1))) 151 4 (nI (pl + 1 + 1)) = A
        have uA : Upd S A (PBs ec) := by rw [← hA]; exact (Upd.fu Q4).tr (Upd.fu Q4)
        have a3 : A.1 ec 3 = nI s := by rw [← hA, fu_a _ _ (by omega), fu_a _ _ (by omega), hs3]
        have a2 : A.1 ec 2 = nI hd := by rw [← hA, fu_a _ _ (by omega), fu_a _ _ (by omega), h2]
        have a4 : A.1 151 4 = nI (pl + 1 + 1) := by rw [← hA, fu_at]
        have an : A.1 151 3 = nI hs.length := by rw [← hA, fu_k _ _ (by decide), fu_k _ _ (by decide), hn]
        have ah : ∀ i, i < hs.length → A.1 (153 + 6 * i) 2 = nI (hs.getD i 0) := fun i hi => by rw [← hA, fu_a _ _ (by omega), fu_a _ _ (by omega), hh i hi]
        have em : nI x * 256 + nI y = nI (x * 256 + y) := by rw [show (256 : Int32) = nI 256 from rfl, pk_mul, nI_add]
        have s7 : (nI s = 7) = (s = 7) := nI_inj (b := 7) (by omega) (by omega)
        have ea := c_entryAt (q := nI hd - nI (x * 256 + y)) an h16 ah
        rw [hdIdx_eq hhb hhd (by omega)] at ea
        have mid2 : vbind (some (some (.int (nI y)), hp A)) (fun v h' => runv 117 34 [some (.ref 151), some (.ref ec), some (.int (nI x)), none, none] (vpush v []) h') = if s = 7 then some (some (.int 1), hp (fu A ec 5 (nI (x * 256 + y)))) else (if 0 ≤ oI (hdIdx hs hd (x * 256 + y)) then some (some (.int 1), hp (fu A ec 5 (oI (hdIdx hs hd (x * 256 + y))))) else some (some (.int 0), hp (fu (fu A ec 5 (oI (hdIdx hs hd (x * 256 + y)))) 151 5 (nI (pl + 1))))) := by
          have f4 : ∀ z, (fu A ec 5 z).1 151 4 = nI (pl + 1 + 1) := fun z => by rw [fu_a _ _ (by omega), a4]
          simp only [vbind_some, vpush_some, s117_34, s117_35, s117_36]
          rw [if_pos (nI_pos' (by omega))]
          simp only [s117_41, s117_42, s117_45, s117_46, s117_47, s117_48, s117_50, n117_50, s117_51, s117_54, s117_56, s117_59, n117_59, s117_60, s117_62, s117_65, s117_66, s117_67, n117_67, s117_68, s117_69, n117_69, s117_70, s117_73, s117_75, s117_76, s117_79, s117_82, n117_82, s117_83, s117_86, s117_89, s117_90, s117_93, s117_96, s117_97, em, n2 he, n3 he, n5 he, a2, a3, s7, n5p he, fu_at, List.length_cons, List.length_nil, Nat.reduceAdd, Nat.reduceLeDiff, Nat.zero_le, t1, ea, c_failAtLast (f4 _), vbind_some, vpush_some, vb0, vb1]
        rw [mid2]
        by_cases hs7' : s = 7
        · rw [if_pos hs7', if_pos hs7']
          exact ⟨_, uA.tr (Upd.fu P5), rfl, by rw [fu_a _ _ (by omega), a4], fun _ => fu_at _ _ _ _⟩
        · rw [if_neg hs7', if_neg hs7']
          cases hf : hdIdx hs hd (x * 256 + y) with
          | none =>
            rw [if_neg (show ¬ 0 ≤ oI none by decide)]
            exact ⟨_, (uA.tr (Upd.fu P5)).tr (Upd.fu Q5), rfl, fu_at _ _ _ _⟩
          | some i =>
            have hi := findIdx_lt hf
            rw [if_pos (show 0 ≤ oI (some i) from nI_pos' (by omega))]
            exact ⟨_, uA.tr (Upd.fu P5), rfl, by rw [fu_a _ _ (by omega), a4], fun _ => fu_at _ _ _ _⟩
      · rw [if_neg (show ¬ (pl + 1 < bs.length ∧ 0 ≤ bs.getD (pl + 1) 0 ∧ bs.getD (pl + 1) 0 ≤ 255) from fun q => h2' q.1), if_neg h2']
        refine ⟨fu (fu S 151 4 (nI (pl + 1))) 151 5 (nI (pl + 1)), (Upd.fu Q4).tr (Upd.fu Q5), ?_, fu_at _ _ _ _⟩
        simp only [vbind_some, vpush_some, s117_34, s117_35, s117_36]
        rw [if_neg (by decide), s117_39, s117_40 vb0]
    · rw [if_neg (show ¬ (pl < bs.length ∧ 0 ≤ bs.getD pl 0 ∧ bs.getD pl 0 ≤ 255) from fun q => h1 q.1), if_neg h1]
      refine ⟨fu S 151 5 (nI pl), Upd.fu Q5, ?_, fu_at _ _ _ _⟩
      simp only [vbind_some, vpush_some, s117_17, s117_18, s117_19]
      rw [if_neg (by decide)]
      simp only [s117_22, s117_23, s117_26, s117_27, s117_28, s117_31, s117_34, s117_35, s117_36]
      rw [if_neg (by decide), s117_39, s117_40 vb0]
