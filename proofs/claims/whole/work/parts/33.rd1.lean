/-! reading packs: cells, next, heads -/
theorem sk_r : sk[151]? = some (8, [some 2, some 54, some 152, none, none, none]) := rfl
def isEnt (ec : Nat) : Prop := sk[ec]? = some (7, [some (ec + 1), some (ec + 3), none, none, none, none, none]) ∧ isRow (ec + 1) (ec + 2) ∧ isItem (ec + 3) (ec + 4) (ec + 5)
theorem isEnt_e {e : Nat} (he : e < 16) : isEnt (153 + 6 * e) := by
  have g1 : ∀ e, e < 16 → sk[153 + 6 * e]? = some (7, [some (153 + 6 * e + 1), some (153 + 6 * e + 3), none, none, none, none, none]) := by decide +kernel
  have g2 : ∀ e, e < 16 → sk[153 + 6 * e + 1]? = some (1, [some (153 + 6 * e + 2), none]) := by decide +kernel
  have g3 : ∀ e, e < 16 → sk[153 + 6 * e + 2]? = some (100, []) := by decide +kernel
  have g4 : ∀ e, e < 16 → sk[153 + 6 * e + 3]? = some (3, [some (153 + 6 * e + 4), none, none]) := by decide +kernel
  have g5 : ∀ e, e < 16 → sk[153 + 6 * e + 4]? = some (1, [some (153 + 6 * e + 5), none]) := by decide +kernel
  have g6 : ∀ e, e < 16 → sk[153 + 6 * e + 5]? = some (100, []) := by decide +kernel
  exact ⟨g1 e he, ⟨g2 e he, g3 e he⟩, g4 e he, g5 e he, g6 e he⟩
section RD0
variable {S : vSt} {ec : Nat} {K : Value → Option (Option Value × vH)} {K2 : vH → Option (Option Value × vH)}
theorem r0 : vgf (hp S) 151 8 0 K = K (.ref 2) := vgf_ref sk_r rfl rfl
theorem r1 : vgf (hp S) 151 8 1 K = K (.ref 54) := vgf_ref sk_r rfl rfl
theorem r2 : vgf (hp S) 151 8 2 K = K (.ref 152) := vgf_ref sk_r rfl rfl
theorem r3 : vgf (hp S) 151 8 3 K = K (.int (S.1 151 3)) := vgf_int sk_r rfl rfl
theorem r4 : vgf (hp S) 151 8 4 K = K (.int (S.1 151 4)) := vgf_int sk_r rfl rfl
theorem r5 : vgf (hp S) 151 8 5 K = K (.int (S.1 151 5)) := vgf_int sk_r rfl rfl
theorem r3p {x : Int32} : vpf (hp S) 151 8 3 (.int x) K2 = K2 (hp (fu S 151 3 x)) := vpf_int sk_r rfl rfl (vfit_int rfl)
theorem r4p {x : Int32} : vpf (hp S) 151 8 4 (.int x) K2 = K2 (hp (fu S 151 4 x)) := vpf_int sk_r rfl rfl (vfit_int rfl)
theorem r5p {x : Int32} : vpf (hp S) 151 8 5 (.int x) K2 = K2 (hp (fu S 151 5 x)) := vpf_int sk_r rfl rfl (vfit_int rfl)
theorem rtR : vtag (hp S) 151 = 8 := vtag_hp sk_r
theorem re_get {e : Nat} (he : e < 16) : vld2 (hp S) 152 (fun t => t == 102 || t == 103) (nI e) K = K (.ref (153 + 6 * e)) := by
  have h : ∃ tm, sk[152]? = some (103, tm) ∧ ∀ e, e < 16 → tm[e]? = some (some (153 + 6 * e)) := ⟨_, rfl, by decide +kernel⟩
  obtain ⟨tm, h1, h2⟩ := h
  exact vld2_ref h1 rfl rfl (nI_pos (by omega)) (by rw [nI_clamp (by omega)]; exact h2 e he)
theorem n0 (h : isEnt ec) : vgf (hp S) ec 7 0 K = K (.ref (ec + 1)) := vgf_ref h.1 rfl rfl
theorem n1 (h : isEnt ec) : vgf (hp S) ec 7 1 K = K (.ref (ec + 3)) := vgf_ref h.1 rfl rfl
theorem n2 (h : isEnt ec) : vgf (hp S) ec 7 2 K = K (.int (S.1 ec 2)) := vgf_int h.1 rfl rfl
theorem n3 (h : isEnt ec) : vgf (hp S) ec 7 3 K = K (.int (S.1 ec 3)) := vgf_int h.1 rfl rfl
theorem n4 (h : isEnt ec) : vgf (hp S) ec 7 4 K = K (.int (S.1 ec 4)) := vgf_int h.1 rfl rfl
theorem n5 (h : isEnt ec) : vgf (hp S) ec 7 5 K = K (.int (S.1 ec 5)) := vgf_int h.1 rfl rfl
theorem n6 (h : isEnt ec) : vgf (hp S) ec 7 6 K = K (.int (S.1 ec 6)) := vgf_int h.1 rfl rfl
theorem n2p (h : isEnt ec) {x : Int32} : vpf (hp S) ec 7 2 (.int x) K2 = K2 (hp (fu S ec 2 x)) := vpf_int h.1 rfl rfl (vfit_int rfl)
theorem n3p (h : isEnt ec) {x : Int32} : vpf (hp S) ec 7 3 (.int x) K2 = K2 (hp (fu S ec 3 x)) := vpf_int h.1 rfl rfl (vfit_int rfl)
theorem n4p (h : isEnt ec) {x : Int32} : vpf (hp S) ec 7 4 (.int x) K2 = K2 (hp (fu S ec 4 x)) := vpf_int h.1 rfl rfl (vfit_int rfl)
theorem n5p (h : isEnt ec) {x : Int32} : vpf (hp S) ec 7 5 (.int x) K2 = K2 (hp (fu S ec 5 x)) := vpf_int h.1 rfl rfl (vfit_int rfl)
theorem vfit_bool {t k : Nat} {b : Bool} (h : vty t k = .boolean) : vfit t k (.int (bI b)) = true := by cases b <;> simp [vfit, h, narrow, fits, bI]
theorem n6p (h : isEnt ec) {b : Bool} : vpf (hp S) ec 7 6 (.int (bI b)) K2 = K2 (hp (fu S ec 6 (bI b))) := vpf_int h.1 rfl rfl (vfit_bool rfl)
theorem nt (h : isEnt ec) : vtag (hp S) ec = 7 := vtag_hp h.1
end RD0
theorem c_isWhole {S : vSt} {ec s : Nat} (h : isEnt ec) (hs : S.1 ec 3 = nI s) (hb : s < 100) : callv 88 [.ref ec] (hp S) = some (some (.int (bI (decide (s ≤ 3)))), hp S) := by
  show runv 88 0 [some (.ref ec)] [] (hp S) = _
  simp only [s88_0, s88_1, s88_4, s88_5, s88_8, s88_9, s88_12, s88_13, n3 h, hs, vb0, vb1]
  by_cases q : s ≤ 3
  · rw [if_neg (show ¬ (3 : Int32) < nI s from nI_nlt (a := 3) q (by omega)), decide_eq_true q]; rfl
  · rw [if_pos (show (3 : Int32) < nI s from nI_lt (a := 3) (by omega) (by omega)), decide_eq_false q]; rfl
def knownS (s : Nat) : Prop := (1 ≤ s ∧ s ≤ 3) ∨ s = 6 ∨ s = 7
theorem c_known {S : vSt} {ec s : Nat} (h : isEnt ec) (hs : S.1 ec 3 = nI s) (hb : s < 8) : ∃ b : Bool, (b = true ↔ knownS s) ∧ callv 89 [.ref ec] (hp S) = some (some (.int (bI b)), hp S) := by
  have e : callv 89 [.ref ec] (hp S) = if nI s < 1 then (if nI s = 6 then some (some (.int 1), hp S) else if nI s = 7 then some (some (.int 1), hp S) else some (some (.int 0), hp S)) else if nI s ≤ 3 then some (some (.int 1), hp S) else (if nI s = 6 then some (some (.int 1), hp S) else if nI s = 7 then some (some (.int 1), hp S) else some (some (.int 0), hp S)) := by
    show runv 89 0 [some (.ref ec)] [] (hp S) = _
    simp only [s89_0, s89_1, s89_4, s89_5, s89_8, s89_9, s89_12, s89_13, s89_16, s89_17, s89_20, s89_22, s89_25, s89_26, s89_29, s89_31, s89_34, s89_35, s89_38, s89_39, n3 h, hs, vb0, vb1]
  rw [e]
  have hc : s = 0 ∨ s = 1 ∨ s = 2 ∨ s = 3 ∨ s = 4 ∨ s = 5 ∨ s = 6 ∨ s = 7 := by omega
  rcases hc with rfl | rfl | rfl | rfl | rfl | rfl | rfl | rfl
  · exact ⟨false, by simp [knownS], rfl⟩
  · exact ⟨true, by simp [knownS], rfl⟩
  · exact ⟨true, by simp [knownS], rfl⟩
  · exact ⟨true, by simp [knownS], rfl⟩
  · exact ⟨false, by simp [knownS], rfl⟩
  · exact ⟨false, by simp [knownS], rfl⟩
  · exact ⟨true, by simp [knownS], rfl⟩
  · exact ⟨true, by simp [knownS], rfl⟩
theorem c_next {S : vSt} {pl lo hi : Nat} {bs : List Nat} (hB : RowIs S 2 3 500 bs) (bb : ∀ x ∈ bs, x < 256) (hpl : S.1 151 4 = nI pl) (hp0 : pl ≤ 1000) (hlo : lo ≤ 255) (hhi : hi ≤ 255) : callv 112 [.ref 151, .int (nI lo), .int (nI hi)] (hp S) = if pl < bs.length ∧ lo ≤ bs.getD pl 0 ∧ bs.getD pl 0 ≤ hi then some (some (.int (nI (bs.getD pl 0))), hp (fu S 151 4 (nI (pl + 1)))) else some (some (.int (-1)), hp (fu S 151 5 (nI pl))) := by
  have b5 := hB.2.2.2.2.1
  have t1 := rowt (S := S) isRow_o
  have hx := getD_lt bb pl
  show runv 112 0 [some (.ref 151), some (.int (nI lo)), some (.int (nI hi)), none] [] (hp S) = _
  simp only [s112_0, s112_1, s112_4, s112_5, s112_8, s112_11, s112_12, s112_13, s112_14, s112_17, s112_18, s112_19, s112_22, s112_23, s112_24, s112_27, s112_30, s112_31, s112_32, s112_33, r112_33, s112_34, s112_37, s112_38, s112_39, s112_42, s112_43, r0, r4, hpl, List.length_cons, List.length_nil, Nat.reduceAdd, Nat.reduceLeDiff, Nat.zero_le, t1, c_get hB, vbind_some, vpush_some, r4p, r5p, nI_1]
  by_cases h1 : pl < bs.length
  · rw [rget_in h1 (by omega)]
    by_cases h2 : lo ≤ bs.getD pl 0
    · rw [if_neg (nI_nlt h2 (by omega))]
      by_cases h3 : bs.getD pl 0 ≤ hi
      · rw [if_pos (nI_le h3 (by omega)), if_pos ⟨h1, h2, h3⟩]
      · rw [if_neg (nI_ge (by omega) (by omega)), if_neg (fun q => h3 q.2.2)]
    · rw [if_pos (nI_lt (by omega) (by omega)), if_neg (fun q => h2 q.2.1)]
  · rw [rget_out (by omega) (by omega), if_pos (Int32.lt_of_lt_of_le (show (-1 : Int32) < 0 by decide) (nI_pos' (by omega))), if_neg (fun q => h1 q.1)]
theorem c_failAtLast {S : vSt} {pl : Nat} (hpl : S.1 151 4 = nI (pl + 1)) : callv 114 [.ref 151] (hp S) = some (some (.int 0), hp (fu S 151 5 (nI pl))) := by
  show runv 114 0 [some (.ref 151)] [] (hp S) = _
  simp only [s114_0, s114_1, s114_2, s114_5, s114_6, s114_7, s114_10, s114_11, r4, hpl, r5p, nI_pred, vb0]
theorem c_isNext {S : vSt} {pl b : Nat} {bs : List Nat} (hB : RowIs S 2 3 500 bs) (bb : ∀ x ∈ bs, x < 256) (hpl : S.1 151 4 = nI pl) (hp0 : pl ≤ 1000) (hb : b ≤ 255) : callv 113 [.ref 151, .int (nI b)] (hp S) = if bs[pl]? = some b then some (some (.int 1), hp (fu S 151 4 (nI (pl + 1)))) else some (some (.int 0), hp (fu S 151 5 (nI pl))) := by
  have t1 := rtR (S := S)
  show runv 113 0 [some (.ref 151), some (.int (nI b))] [] (hp S) = _
  simp only [s113_0, s113_1, s113_2, s113_3, s113_6, s113_7, s113_10, s113_11, s113_14, s113_15, List.length_cons, List.length_nil, Nat.reduceAdd, Nat.reduceLeDiff, Nat.zero_le, t1, c_next hB bb hpl hp0 hb hb]
  by_cases h1 : pl < bs.length ∧ b ≤ bs.getD pl 0 ∧ bs.getD pl 0 ≤ b
  · have e : bs.getD pl 0 = b := by omega
    have e2 : bs[pl]? = some b := by
      rw [List.getD_eq_getElem?_getD, List.getElem?_eq_getElem h1.1] at e
      rw [List.getElem?_eq_getElem h1.1]
      exact congrArg some e
    rw [if_pos h1, if_pos e2, e]
    simp only [vbind_some, vpush_some, s113_0, s113_1, s113_2, s113_3, s113_6, s113_7, s113_10, s113_11, s113_14, s113_15, if_true, vb1]
  · have e2 : ¬ bs[pl]? = some b := by
      intro q
      have hlt : pl < bs.length := (List.getElem?_eq_some_iff.mp q).1
      apply h1
      rw [List.getD_eq_getElem?_getD, q]
      exact ⟨hlt, Nat.le_refl _, Nat.le_refl _⟩
    rw [if_neg h1, if_neg e2]
    have e3 : ¬ (-1 : Int32) = nI b := by
      intro q
      have : (-1 : Int32) < 0 := by decide
      rw [q] at this
      exact nI_pos (by omega) this
    simp only [vbind_some, vpush_some, s113_0, s113_1, s113_2, s113_3, s113_6, s113_7, s113_10, s113_11, s113_14, s113_15, if_neg e3, vb0]
/-- where a reading step stops, or what it read and where it goes on -/
def rdHead (bs : List Nat) (p : Nat) : Nat ⊕ (Nat × Nat × Nat) :=
  if p < bs.length then
    if (1 ≤ bs.getD p 0 / 16 % 8 ∧ bs.getD p 0 / 16 % 8 ≤ 3) ∨ bs.getD p 0 / 16 % 8 = 6 ∨ bs.getD p 0 / 16 % 8 = 7 then
      if bs.getD p 0 < 128 then .inr (bs.getD p 0 / 16 % 8, bs.getD p 0 % 16, p + 1)
      else if p + 1 < bs.length ∧ 1 ≤ bs.getD (p + 1) 0 ∧ bs.getD (p + 1) 0 ≤ 15 then
        if bs.getD p 0 / 16 % 8 ≤ 3 ∧ 24 < bs.getD p 0 % 16 + 16 * bs.getD (p + 1) 0 then .inl (p + 1) else .inr (bs.getD p 0 / 16 % 8, bs.getD p 0 % 16 + 16 * bs.getD (p + 1) 0, p + 2)
      else .inl (p + 1)
    else .inl p
  else .inl p
/-- only these fields differ -/
def Upd (S S1 : vSt) (P : Nat → Nat → Prop) : Prop := (∀ b j, ¬ P b j → S1.1 b j = S.1 b j) ∧ S1.2 = S.2
theorem Upd.tr {S S1 S2 : vSt} {P : Nat → Nat → Prop} (h : Upd S S1 P) (h2 : Upd S1 S2 P) : Upd S S2 P := ⟨fun b j hp => (h2.1 b j hp).trans (h.1 b j hp), h2.2.trans h.2⟩
theorem Upd.fu {S : vSt} {P : Nat → Nat → Prop} {a k : Nat} {x : Int32} (h : P a k) : Upd S (fu S a k x) P := ⟨fun b j hp => by
  by_cases hb : b = a
  · by_cases hj : j = k
    · subst hb; subst hj; exact absurd h hp
    · exact fu_k S x hj
  · exact fu_a S x hb, rfl⟩
theorem Upd.rf {S : vSt} {P : Nat → Nat → Prop} : Upd S S P := ⟨fun _ _ _ => rfl, rfl⟩
theorem Upd.mono {S S1 : vSt} {P Q : Nat → Nat → Prop} (h : Upd S S1 P) (hq : ∀ b j, P b j → Q b j) : Upd S S1 Q := ⟨fun b j hp => h.1 b j (fun z => hp (hq b j z)), h.2⟩
theorem RowIs.upd {S S1 : vSt} {P : Nat → Nat → Prop} {r a N : Nat} {bs : List Nat} (h : RowIs S r a N bs) (hu : Upd S S1 P) (hp0 : ¬ P r 1) : RowIs S1 r a N bs := by
  obtain ⟨h1, h2, h3, h4, h5, h6⟩ := h
  exact ⟨h1, by rw [hu.1 r 1 hp0, h2], by rw [hu.2, h3], by rw [hu.2, h4], h5, h6⟩
def PHd (ec : Nat) : Nat → Nat → Prop := fun b j => (b = 151 ∧ (j = 4 ∨ j = 5)) ∨ (b = ec ∧ (j = 2 ∨ j = 3 ∨ j = 4))
theorem c_readHead {S : vSt} {pl ec : Nat} {bs : List Nat} (he : isEnt ec) (hec : 151 < ec) (hB : RowIs S 2 3 500 bs) (bb : ∀ x ∈ bs, x < 256) (hpl : S.1 151 4 = nI pl) (hp0 : pl ≤ 500) : ∃ S1, Upd S S1 (PHd ec) ∧ match rdHead bs pl with
    | .inl f => callv 116 [.ref 151, .ref ec] (hp S) = some (some (.int 0), hp S1) ∧ S1.1 151 5 = nI f
    | .inr (s, z, p1) => callv 116 [.ref 151, .ref ec] (hp S) = some (some (.int 1), hp S1) ∧ S1.1 ec 2 = nI pl ∧ S1.1 ec 3 = nI s ∧ S1.1 ec 4 = nI z ∧ S1.1 151 4 = nI p1 := by
  have b5 := hB.2.2.2.2.1
  have t1 := fun S => rtR (S := S)
  have t2 := fun S => nt (S := S) he
  have hx := getD_lt bb pl
  have hx1 := getD_lt bb (pl + 1)
  have P2 : PHd ec ec 2 := Or.inr ⟨rfl, Or.inl rfl⟩
  have P3 : PHd ec ec 3 := Or.inr ⟨rfl, Or.inr (Or.inl rfl)⟩
  have P4 : PHd ec ec 4 := Or.inr ⟨rfl, Or.inr (Or.inr rfl)⟩
  have Q4 : PHd ec 151 4 := Or.inl ⟨rfl, Or.inl rfl⟩
  have Q5 : PHd ec 151 5 := Or.inl ⟨rfl, Or.inr rfl⟩
  have hB1 : RowIs (fu S ec 2 (nI pl)) 2 3 500 bs := hB.fu (by omega)
  have hpl1 : (fu S ec 2 (nI pl)).1 151 4 = nI pl := by rw [fu_a _ _ (by omega), hpl]
  have e1 := c_next hB1 bb hpl1 (by omega) (lo := 0) (hi := 255) (by omega) (by omega)
  have start : callv 116 [.ref 151, .ref ec] (hp S) = vbind (callv 112 [.ref 151, .int (nI 0), .int (nI 255)] (hp (fu S ec 2 (nI pl)))) (fun v h' => runv 116 16 [some (.ref 151), some (.ref ec), none, none] (vpush v []) h') := by
    show runv 116 0 [some (.ref 151), some (.ref ec), none, none] [] (hp S) = _
    simp only [s116_0, n116_0, s116_1, s116_2, s116_5, s116_8, s116_9, s116_10, s116_13, r4, hpl, n2p he, List.length_cons, List.length_nil, Nat.reduceAdd, Nat.reduceLeDiff, Nat.zero_le, t1]
    rfl
  rw [start, e1]
  unfold rdHead
  by_cases h1 : pl < bs.length
  · rw [if_pos (show pl < bs.length ∧ 0 ≤ bs.getD pl 0 ∧ bs.getD pl 0 ≤ 255 from ⟨h1, Nat.zero_le _, by omega⟩), if_pos h1]
    generalize hxe : bs.getD pl 0 = x at *
    have e16 : ¬ (16 : Int32) = 0 := by decide
    have e8 : ¬ (8 : Int32) = 0 := by decide
    have d16 : nI x / 16 = nI (x / 16) := pk_div (d := 16) (by omega) (by omega) (by omega)
    have m8 : nI (x / 16) - nI (x / 16) / 8 * 8 = nI (x / 16 % 8) := pk_rem (d := 8) (by omega) (by omega) (by omega)
    have m16 : nI x - nI (x / 16) * 16 = nI (x % 16) := by rw [← d16]; exact pk_rem (d := 16) (by omega) (by omega) (by omega)
    generalize hA : fu (fu (fu (fu S ec 2 (nI pl)) 151 4 (nI (pl + 1))) ec 3 (nI (x / 16 % 8))) ec 4 (nI (x % 16)) = A
    have uA : Upd S A (PHd ec) := by rw [← hA]; exact (((Upd.fu P2).tr (Upd.fu Q4)).tr (Upd.fu P3)).tr (Upd.fu P4)
    have a2 : A.1 ec 2 = nI pl := by rw [← hA, fu_k _ _ (by decide), fu_k _ _ (by decide), fu_a _ _ (by omega), fu_at]
    have a3 : A.1 ec 3 = nI (x / 16 % 8) := by rw [← hA, fu_k _ _ (by decide), fu_at]
    have a4 : A.1 ec 4 = nI (x % 16) := by rw [← hA, fu_at]
    have a5 : A.1 151 4 = nI (pl + 1) := by rw [← hA, fu_a _ _ (by omega), fu_a _ _ (by omega), fu_at]
    obtain ⟨kb, hkb, ek⟩ := c_known (S := A) he a3 (by omega)
    have mid : vbind (some (some (.int (nI x)), hp (fu (fu S ec 2 (nI pl)) 151 4 (nI (pl + 1))))) (fun v h' => runv 116 16 [some (.ref 151), some (.ref ec), none, none] (vpush v []) h') = if kb = true then runv 116 54 [some (.ref 151), some (.ref ec), some (.int (nI x)), none] [] (hp A) else some (some (.int 0), hp (fu A 151 5 (nI pl))) := by
      simp only [vbind_some, vpush_some, s116_16, s116_17, s116_18, s116_21, s116_22, s116_23, n116_23, s116_24, s116_25, s116_27, s116_28, s116_30, s116_31]
      rw [if_pos (nI_pos' (by omega))]
      simp only [s116_16, s116_17, s116_18, s116_21, s116_22, s116_23, n116_23, s116_24, s116_25, s116_27, s116_28, s116_30, s116_31, s116_34, n116_34, s116_35, s116_36, s116_38, s116_39, s116_42, n116_42, s116_43, s116_46, s116_49, s116_50, s116_53, n3p he, n4p he, e16, e8, not_false_eq_true, d16, m8, m16, hA, List.length_cons, List.length_nil, Nat.reduceAdd, Nat.reduceLeDiff, Nat.zero_le, t1, t2, ek, c_failAtLast a5, vbind_some, vpush_some, if_bI, vb0]
    rw [mid]
    by_cases hkn : (1 ≤ x / 16 % 8 ∧ x / 16 % 8 ≤ 3) ∨ x / 16 % 8 = 6 ∨ x / 16 % 8 = 7
    · rw [if_pos (hkb.mpr hkn), if_pos hkn]
      have ew := c_isWhole (S := A) he a3 (by omega)
      by_cases h128 : x < 128
      · rw [if_pos h128]
        refine ⟨A, uA, ?_, a2, a3, a4, a5⟩
        simp only [s116_54, s116_55, s116_58]
        rw [if_pos (show nI x < 128 from nI_lt (b := 128) h128 (by omega))]
        simp only [s116_88, n116_88, s116_89, s116_92, s116_95, n116_95, s116_96, s116_99, s116_101, s116_104, s116_105, s116_108, s116_111, s116_112, n4 he, a4, List.length_cons, List.length_nil, Nat.reduceAdd, Nat.reduceLeDiff, Nat.zero_le, t1, t2, ew, vbind_some, vpush_some, if_bI, vb1]
        rw [if_pos (show nI (x % 16) ≤ 24 from nI_le (b := 24) (by omega) (by omega))]
        split <;> rfl
      · rw [if_neg h128]
        have hBA : RowIs A 2 3 500 bs := hB.upd uA (by rintro (⟨q, -⟩ | ⟨q, -⟩) <;> omega)
        have e2 := c_next hBA bb a5 (by omega) (lo := 1) (hi := 15) (by omega) (by omega)
        have mid2 : runv 116 54 [some (.ref 151), some (.ref ec), some (.int (nI x)), none] [] (hp A) = vbind (callv 112 [.ref 151, .int (nI 1), .int (nI 15)] (hp A)) (fun v h' => runv 116 68 [some (.ref 151), some (.ref ec), some (.int (nI x)), none] (vpush v []) h') := by
          simp only [s116_54, s116_55, s116_58]
          rw [if_neg (show ¬ nI x < 128 from nI_nlt (b := 128) (by omega) (by omega))]
          simp only [s116_61, s116_62, s116_63, s116_65, List.length_cons, List.length_nil, Nat.reduceAdd, Nat.reduceLeDiff, Nat.zero_le, t1]
          rfl
        rw [mid2, e2]
        by_cases h2 : pl + 1 < bs.length ∧ 1 ≤ bs.getD (pl + 1) 0 ∧ bs.getD (pl + 1) 0 ≤ 15
        · rw [if_pos h2, if_pos h2]
          generalize bs.getD (pl + 1) 0 = y at *
          generalize hC : fu (fu A 151 4 (nI (pl + 1 + 1))) ec 4 (nI (x % 16 + 16 * y)) = C
          have uC : Upd S C (PHd ec) := by rw [← hC]; exact (uA.tr (Upd.fu Q4)).tr (Upd.fu P4)
          have c2 : C.1 ec 2 = nI pl := by rw [← hC, fu_k _ _ (by decide), fu_a _ _ (by omega), a2]
          have c3 : C.1 ec 3 = nI (x / 16 % 8) := by rw [← hC, fu_k _ _ (by decide), fu_a _ _ (by omega), a3]
          have c4 : C.1 ec 4 = nI (x % 16 + 16 * y) := by rw [← hC, fu_at]
          have c5 : C.1 151 4 = nI (pl + 1 + 1) := by rw [← hC, fu_a _ _ (by omega), fu_at]
          have ew2 := c_isWhole (S := C) he c3 (by omega)
          have em : (16 : Int32) * nI y = nI (16 * y) := by rw [show (16 : Int32) = nI 16 from rfl, pk_mul]
          have f4 : (fu A 151 4 (nI (pl + 1 + 1))).1 ec 4 = nI (x % 16) := by rw [fu_a _ _ (by omega), a4]
          have mid3 : vbind (some (some (.int (nI y)), hp (fu A 151 4 (nI (pl + 1 + 1))))) (fun v h' => runv 116 68 [some (.ref 151), some (.ref ec), some (.int (nI x)), none] (vpush v []) h') = if decide (x / 16 % 8 ≤ 3) = true then (if nI (x % 16 + 16 * y) ≤ 24 then some (some (.int 1), hp C) else some (some (.int 0), hp (fu C 151 5 (nI (pl + 1))))) else some (some (.int 1), hp C) := by
            simp only [vbind_some, vpush_some, s116_68, s116_69, s116_70, s116_73, s116_74, s116_75, n116_75, s116_76, r116_76, s116_77, s116_80, s116_82, s116_83, s116_84, s116_85]
            rw [if_pos (nI_pos' (by omega))]
            simp only [s116_68, s116_69, s116_70, s116_73, s116_74, s116_75, n116_75, s116_76, r116_76, s116_77, s116_80, s116_82, s116_83, s116_84, s116_85, s116_88, n116_88, s116_89, s116_92, s116_95, n116_95, s116_96, s116_99, s116_101, s116_104, s116_105, s116_108, s116_111, s116_112, n4 he, f4, em, nI_add, n4p he, hC, c4, List.length_cons, List.length_nil, Nat.reduceAdd, Nat.reduceLeDiff, Nat.zero_le, t1, t2, ew2, c_failAtLast c5, vbind_some, vpush_some, if_bI, vb0, vb1]
          rw [mid3]
          by_cases hw : x / 16 % 8 ≤ 3
          · rw [if_pos (decide_eq_true hw)]
            by_cases h24 : x % 16 + 16 * y ≤ 24
            · rw [if_pos (show nI (x % 16 + 16 * y) ≤ 24 from nI_le (b := 24) h24 (by omega)), if_neg (fun q => by omega)]
              exact ⟨C, uC, rfl, c2, c3, c4, c5⟩
            · rw [if_neg (show ¬ nI (x % 16 + 16 * y) ≤ 24 from nI_ge (a := 24) (by omega) (by omega)), if_pos ⟨hw, by omega⟩]
              exact ⟨_, uC.tr (Upd.fu Q5), rfl, fu_at _ _ _ _⟩
          · rw [if_neg (show ¬ (x / 16 % 8 ≤ 3 ∧ 24 < x % 16 + 16 * y) from fun q => hw q.1), if_neg (show ¬ decide (x / 16 % 8 ≤ 3) = true by simp [hw])]
            exact ⟨C, uC, rfl, c2, c3, c4, c5⟩
        · rw [if_neg h2, if_neg h2]
          refine ⟨fu A 151 5 (nI (pl + 1)), uA.tr (Upd.fu Q5), ?_, fu_at _ _ _ _⟩
          simp only [vbind_some, vpush_some, s116_68, s116_69, s116_70, s116_73, s116_74]
          rw [if_neg (by decide), s116_74 vb0]
    · rw [if_neg (fun q => hkn (hkb.mp q)), if_neg hkn]
      exact ⟨_, uA.tr (Upd.fu Q5), rfl, fu_at _ _ _ _⟩
  · rw [if_neg (show ¬ (pl < bs.length ∧ 0 ≤ bs.getD pl 0 ∧ bs.getD pl 0 ≤ 255) from fun q => h1 q.1), if_neg h1]
    refine ⟨fu (fu S ec 2 (nI pl)) 151 5 (nI pl), (Upd.fu P2).tr (Upd.fu Q5), ?_, fu_at _ _ _ _⟩
    simp only [vbind_some, vpush_some, s116_16, s116_17, s116_18]
    rw [if_neg (by decide), s116_21, s116_22 vb0]
