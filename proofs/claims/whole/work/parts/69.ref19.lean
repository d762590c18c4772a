/-! the reference: difference -/
def Ch (k a : Nat) (S S1 : vSt) : Prop := (∀ b j, ¬ (b = 249 ∧ j = k) → S1.1 b j = S.1 b j) ∧ (∀ b, b ≠ a → S1.2 b = S.2 b) ∧ (S1.2 a).length = (S.2 a).length
section CH
variable {S S1 S2 : vSt} {k a : Nat}
theorem Ch.rf : Ch k a S S := ⟨fun _ _ _ => rfl, fun _ _ => rfl, rfl⟩
theorem Ch.tr (h : Ch k a S S1) (g : Ch k a S1 S2) : Ch k a S S2 := ⟨fun b j q => (g.1 b j q).trans (h.1 b j q), fun b q => (g.2.1 b q).trans (h.2.1 b q), g.2.2.trans h.2.2⟩
theorem Ch.sq {bs : List Nat} (hl : bs.length ≤ (S.2 a).length) : Ch k a S (sqSet S k a bs) := ⟨fun b j q => sq_1 q, fun b q => sq_2 q, sq_len hl a⟩
theorem Ch.fu {x : Int32} : Ch k a S (fu S 249 k x) := ⟨fun b j q => by
  by_cases e : b = 249
  · exact fu_k _ _ (fun z => q ⟨e, z⟩)
  · exact fu_a _ _ e, fun _ _ => rfl, rfl⟩
theorem Ch.len (h : Ch k a S S1) (hL : RLen S) : RLen S1 := hL.of (fun b => by
  by_cases q : b = a
  · subst q; exact h.2.2
  · rw [h.2.1 b q])
theorem Ch.slt (h : Ch k a S S1) (ha : a ≠ 252 ∧ a ≠ 253 ∧ a ≠ 254) {i : Nat} {o : Obj} (hS : SltIs S i o) : SltIs S1 i o := hS.of (h.2.1 _ (fun z => ha.1 z.symm)) (h.2.1 _ (fun z => ha.2.1 z.symm)) (h.2.1 _ (fun z => ha.2.2 z.symm))
theorem Ch.side (h : Ch k a S S1) (ha : a ≠ 251 ∧ a ≠ 252 ∧ a ≠ 253 ∧ a ≠ 254) {s : Nat} {l : List Obj} (hS : SideIs S s l) : SideIs S1 s l := hS.of (h.2.1 _ (fun z => ha.1 z.symm)) (h.2.1 _ (fun z => ha.2.1 z.symm)) (h.2.1 _ (fun z => ha.2.2.1 z.symm)) (h.2.1 _ (fun z => ha.2.2.2 z.symm))
theorem Ch.seq (h : Ch k a S S1) {k2 a2 N : Nat} {bs : List Nat} (h1 : k2 ≠ k) (h2 : a2 ≠ a) (hS : SqIs S k2 a2 N bs) : SqIs S1 k2 a2 N bs := ⟨by rw [h.1 _ _ (fun z => h1 z.2)]; exact hS.1, by rw [h.2.1 _ h2]; exact hS.2.1, by rw [h.2.1 _ h2]; exact hS.2.2.1, hS.2.2.2⟩
end CH
theorem sq_put {S : vSt} {k a N i y : Nat} {bs : List Nat} (h : SqIs S k a N bs) (hi : i < bs.length) : SqIs (au S a ((S.2 a).set i (nI y))) k a N (bs.set i y) ∧ Ch k a S (au S a ((S.2 a).set i (nI y))) := by
  refine ⟨⟨by rw [au_1, List.length_set]; exact h.1, by rw [au_at, List.length_set]; exact h.2.1, ?_, by rw [List.length_set]; exact h.2.2.2⟩, fun _ _ _ => rfl, fun b q => au_a _ _ q, by rw [au_at, List.length_set]⟩
  rw [au_at, List.length_set, List.take_set, h.2.2.1, List.map_set]
section REF19
variable {io ib : Nat} {ko kb : Nat} {B C : List Nat}
theorem c_dcm_loop {S : vSt} {v3 v5 v6 : Option Value} {p q : Nat} (hL : RLen S) (ho : SltIs S io (ko, C)) (hb : SltIs S ib (kb, B)) (hq : q ≤ B.length) : ∀ k n, p + n + k = C.length → q + n ≤ B.length → runv 50 64 [some (.ref 249), some (.int (nI io)), some (.int (nI ib)), v3, some (.int (nI p)), v5, v6, some (.int (nI q)), some (.int (nI n))] [] (hp S) = runv 50 134 [some (.ref 249), some (.int (nI io)), some (.int (nI ib)), v3, some (.int (nI p)), v5, v6, some (.int (nI q)), some (.int (nI (n + commN (C.drop (p + n)) (B.drop (q + n)))))] [] (hp S) := by
  obtain ⟨o1, o2, o3, o4, o5, o6, o7, o8⟩ := ho
  obtain ⟨b1, b2, b3, b4, b5, b6, b7, b8⟩ := hb
  simp only at o2 o3 o4 o5 o6 o7 o8 b2 b3 b4 b5 b6 b7 b8
  intro k
  induction k with
  | zero =>
    intro n hn hqn
    rw [s50_64]
    simp only [s50_66, s50_68, s50_69, s50_70, s50_73, s50_74, s50_75, q4, nI_add, g253 hL o1, o3]
    rw [if_pos (nI_le (by omega) (by omega)), List.drop_of_length_le (show C.length ≤ p + n by omega)]
    simp [commN]
  | succ k ih =>
    intro n hn hqn
    rw [s50_64]
    by_cases h1 : q + n < B.length
    · have x1 := getD_lt o6 (p + n)
      have x2 := getD_lt b6 (q + n)
      have ec := o4 (p + n) (by omega)
      have eb := b4 (q + n) (by omega)
      have gc := fun (K : Value → Option (Option Value × vH)) => g254 (S := S) (i := 24 * io + (p + n)) (K := K) hL (by omega)
      have gb2 := fun (K : Value → Option (Option Value × vH)) => g254 (S := S) (i := 24 * ib + (q + n)) (K := K) hL (by omega)
      simp only [s50_66, s50_68, s50_69, s50_70, s50_73, s50_74, s50_75, s50_78, s50_80, s50_82, s50_83, s50_84, s50_87, s50_88, s50_89, s50_92, s50_93, s50_96, s50_98, s50_99, s50_100, s50_102, s50_103, s50_105, s50_106, s50_107, s50_108, s50_111, s50_113, s50_114, s50_115, s50_117, s50_118, s50_120, s50_121, s50_122, s50_125, s50_127, s50_128, s50_129, s50_131, q4, q5, nI_add, x24, g253 hL o1, g253 hL b1, o3, b3, gc, gb2, show 24 * io + p + n = 24 * io + (p + n) by omega, show 24 * ib + q + n = 24 * ib + (q + n) by omega, ec, eb, nI_inj (show C.getD (p + n) 0 < 2 ^ 31 by omega) (show B.getD (q + n) 0 < 2 ^ 31 by omega), nI_1]
      rw [if_neg (nI_ge (by omega) (by omega)), if_neg (nI_ge (by omega) (by omega)), drop_cons (show p + n < C.length by omega), drop_cons h1]
      unfold commN
      by_cases hx : C.getD (p + n) 0 = B.getD (q + n) 0
      · rw [if_pos hx, if_pos hx, ih (n + 1) (by omega) (by omega)]
        rw [show p + (n + 1) = p + n + 1 by omega, show q + (n + 1) = q + n + 1 by omega, show n + 1 + commN (C.drop (p + n + 1)) (B.drop (q + n + 1)) = n + (commN (C.drop (p + n + 1)) (B.drop (q + n + 1)) + 1) by omega]
      · rw [if_neg hx, if_neg hx]
        rfl
    · simp only [s50_66, s50_68, s50_69, s50_70, s50_73, s50_74, s50_75, s50_78, s50_80, s50_82, s50_83, s50_84, s50_87, s50_88, s50_89, q4, nI_add, g253 hL o1, g253 hL b1, o3, b3]
      rw [if_neg (nI_ge (by omega) (by omega)), if_pos (nI_le (by omega) (by omega)), List.drop_of_length_le (show B.length ≤ q + n by omega)]
      have : commN (C.drop (p + n)) [] = 0 := by cases C.drop (p + n) <;> rfl
      rw [this]
      rfl
def lpG (B C : List Nat) (p : Nat) : Nat → Nat → Nat → Nat → Nat × Nat
  | 0, _, best, longest => (best, longest)
  | k + 1, q, best, longest => if longest < commN (C.drop p) (B.drop q) then lpG B C p k (q + 1) q (commN (C.drop p) (B.drop q)) else lpG B C p k (q + 1) best longest
theorem lpG_1 (p : Nat) : ∀ k q best longest, (lpG B C p k q best longest).1 = lpF B C p k q best longest := by
  intro k
  induction k with
  | zero => intro q best longest; rfl
  | succ k ih =>
    intro q best longest
    unfold lpG lpF
    split
    · exact ih _ _ _
    · exact ih _ _ _
theorem lpG_2 (p : Nat) : ∀ k q best longest, longest = commN (C.drop p) (B.drop best) → (lpG B C p k q best longest).2 = commN (C.drop p) (B.drop (lpG B C p k q best longest).1) := by
  intro k
  induction k with
  | zero => intro q best longest h; exact h
  | succ k ih =>
    intro q best longest h
    unfold lpG
    split
    · exact ih _ _ _ rfl
    · exact ih _ _ _ h
theorem lpG_0 (p : Nat) : lpG B C p B.length 0 0 0 = (lpl B C p, commN (C.drop p) (B.drop (lpl B C p))) := by
  have e1 := lpG_1 (B := B) (C := C) p B.length 0 0 0
  have e2 : (lpG B C p B.length 0 0 0).2 = commN (C.drop p) (B.drop (lpG B C p B.length 0 0 0).1) := by
    cases hB : B.length with
    | zero =>
      have : B = [] := List.length_eq_zero_iff.mp hB
      subst this
      show 0 = commN (C.drop p) ([].drop 0)
      cases C.drop p <;> rfl
    | succ n =>
      show (if 0 < commN (C.drop p) (B.drop 0) then lpG B C p n (0 + 1) 0 (commN (C.drop p) (B.drop 0)) else lpG B C p n (0 + 1) 0 0).2 = commN (C.drop p) (B.drop (if 0 < commN (C.drop p) (B.drop 0) then lpG B C p n (0 + 1) 0 (commN (C.drop p) (B.drop 0)) else lpG B C p n (0 + 1) 0 0).1)
      split
      · exact lpG_2 p _ _ _ _ rfl
      · exact lpG_2 p _ _ _ _ (by omega)
  rw [e1] at e2
  exact Prod.ext e1 e2
theorem c_dlp_loop {S : vSt} {v3 : Option Value} {p : Nat} (hL : RLen S) (ho : SltIs S io (ko, C)) (hb : SltIs S ib (kb, B)) (hp0 : p ≤ C.length) : ∀ k q best longest v8, q + k = B.length → longest ≤ 24 → ∃ v8', runv 50 50 [some (.ref 249), some (.int (nI io)), some (.int (nI ib)), v3, some (.int (nI p)), some (.int (nI longest)), some (.int (nI best)), some (.int (nI q)), v8] [] (hp S) = runv 50 172 [some (.ref 249), some (.int (nI io)), some (.int (nI ib)), v3, some (.int (nI p)), some (.int (nI (lpG B C p k q best longest).2)), some (.int (nI (lpG B C p k q best longest).1)), some (.int (nI B.length)), v8'] [] (hp S) := by
  have b1 := hb.1
  have b3 : (S.2 253).getD ib 0 = nI B.length := hb.2.2.1
  have b5 : B.length ≤ 24 := hb.2.2.2.2.1
  have o5 : C.length ≤ 24 := ho.2.2.2.2.1
  intro k
  induction k with
  | zero =>
    intro q best longest v8 hq hl
    refine ⟨v8, ?_⟩
    rw [s50_50]
    simp only [s50_52, s50_53, s50_56, s50_57, s50_58, q4, g253 hL b1, b3]
    rw [if_pos (nI_le (by omega) (by omega)), show q = B.length by omega]
    rfl
  | succ k ih =>
    intro q best longest v8 hq hl
    have hcm := c_dcm_loop (v3 := v3) (v5 := some (.int (nI longest))) (v6 := some (.int (nI best))) (p := p) (q := q) hL ho hb (by omega) (C.length - p) 0 (by omega) (by omega)
    have e0 : (nI 0 : Int32) = 0 := rfl
    rw [e0] at hcm
    simp only [Nat.add_zero, Nat.zero_add] at hcm
    have hle := commN_le (C.drop p) (B.drop q)
    rw [List.length_drop, List.length_drop] at hle
    have st : runv 50 50 [some (.ref 249), some (.int (nI io)), some (.int (nI ib)), v3, some (.int (nI p)), some (.int (nI longest)), some (.int (nI best)), some (.int (nI q)), v8] [] (hp S) = runv 50 134 [some (.ref 249), some (.int (nI io)), some (.int (nI ib)), v3, some (.int (nI p)), some (.int (nI longest)), some (.int (nI best)), some (.int (nI q)), some (.int (nI (commN (C.drop p) (B.drop q))))] [] (hp S) := by
      rw [← hcm, s50_50]
      simp only [s50_52, s50_53, s50_56, s50_57, s50_58, s50_61, s50_62, q4, g253 hL b1, b3]
      rw [if_neg (nI_ge (by omega) (by omega))]
    rw [st]
    unfold lpG
    by_cases h1 : longest < commN (C.drop p) (B.drop q)
    · rw [if_pos h1]
      obtain ⟨v8', g⟩ := ih (q + 1) q (commN (C.drop p) (B.drop q)) (some (.int (nI (commN (C.drop p) (B.drop q))))) (by omega) (by omega)
      refine ⟨v8', ?_⟩
      rw [← g]
      have n1 : ¬ nI (commN (C.drop p) (B.drop q)) ≤ nI longest := nI_ge h1 (by omega)
      simp only [s50_134, s50_136, s50_138, s50_141, s50_143, s50_146, s50_148, s50_150, s50_152, s50_154, s50_157, s50_159, s50_162, s50_164, s50_166, s50_169, if_neg n1, nI_1]
    · rw [if_neg h1]
      obtain ⟨v8', g⟩ := ih (q + 1) best longest (some (.int (nI (commN (C.drop p) (B.drop q))))) (by omega) hl
      refine ⟨v8', ?_⟩
      rw [← g]
      have n1 : nI (commN (C.drop p) (B.drop q)) ≤ nI longest := nI_le (by omega) (by omega)
      simp only [s50_134, s50_136, s50_138, s50_141, s50_143, s50_146, s50_148, s50_150, s50_152, s50_154, s50_157, s50_159, s50_162, s50_164, s50_166, s50_169, if_pos n1, nI_1]
theorem take_snoc {p w : Nat} (hw : w ≤ p) (hp0 : p < C.length) : (C.drop (p - w)).take w ++ [C.getD p 0] = (C.drop (p + 1 - (w + 1))).take (w + 1) := by
  rw [show p + 1 - (w + 1) = p - w by omega, List.take_succ, List.getElem?_drop, show p - w + w = p by omega, List.getElem?_eq_getElem hp0, List.getD_eq_getElem?_getD, List.getElem?_eq_getElem hp0]
  rfl
theorem c_df_loop : ∀ n p w pre S v5 v6 v7 v8, RLen S → SltIs S io (ko, C) → SltIs S ib (kb, B) → C.length < p + n → p ≤ C.length → w ≤ p → SqIs S 16 261 256 (pre ++ putL ((C.drop (p - w)).take w)) → pre.length + w + 2 * (C.length - p) + 4 ≤ 250 → ∃ S1, runv 50 30 [some (.ref 249), some (.int (nI io)), some (.int (nI ib)), some (.int (if w = 0 then -1 else nI pre.length)), some (.int (nI p)), v5, v6, v7, v8] [] (hp S) = some (none, hp S1) ∧ SqIs S1 16 261 256 (pre ++ diffF B C n p w) ∧ Ch 16 261 S S1 := by
  intro n
  induction n with
  | zero => intro p w pre S v5 v6 v7 v8 _ _ _ h1 h2; omega
  | succ n ih =>
    intro p w pre S v5 v6 v7 v8 hL ho hb hn hp0 hw hR hbd
    have o1 := ho.1
    have o3 : (S.2 253).getD io 0 = nI C.length := ho.2.2.1
    have o5 : C.length ≤ 24 := ho.2.2.2.2.1
    have o6 : ∀ x ∈ C, x < 256 := ho.2.2.2.2.2.1
    have b5 : B.length ≤ 24 := hb.2.2.2.2.1
    have tq := qt (S := S)
    have hpl : (putL ((C.drop (p - w)).take w)).length ≤ w + 1 := by
      rw [putL_len (n := w) (by rw [List.length_take, List.length_drop]; omega)]
      split <;> omega
    unfold diffF
    rw [s50_30]
    by_cases h1 : p < C.length
    · rw [if_pos h1]
      obtain ⟨v8', hlp⟩ := c_dlp_loop (v3 := some (.int (if w = 0 then -1 else nI pre.length))) (p := p) hL ho hb hp0 B.length 0 0 0 v8 (by omega) (by omega)
      have e0 : (nI 0 : Int32) = 0 := rfl
      rw [lpG_0, e0] at hlp
      simp only at hlp
      have hle := commN_le (C.drop p) (B.drop (lpl B C p))
      rw [List.length_drop, List.length_drop] at hle
      have hll : lpl B C p ≤ B.length := lpF_le B C p B.length 0 0 0 (by omega) (by omega)
      have st : runv 50 32 [some (.ref 249), some (.int (nI io)), some (.int (nI ib)), some (.int (if w = 0 then -1 else nI pre.length)), some (.int (nI p)), v5, v6, v7, v8] [.int (nI p)] (hp S) = runv 50 172 [some (.ref 249), some (.int (nI io)), some (.int (nI ib)), some (.int (if w = 0 then -1 else nI pre.length)), some (.int (nI p)), some (.int (nI (commN (C.drop p) (B.drop (lpl B C p))))), some (.int (nI (lpl B C p))), some (.int (nI B.length)), v8'] [] (hp S) := by
        rw [← hlp]
        simp only [s50_32, s50_33, s50_36, s50_37, s50_38, s50_41, s50_42, s50_44, s50_45, s50_47, s50_48, q4, g253 hL o1, o3]
        rw [if_neg (nI_ge (by omega) (by omega))]
      rw [st]
      by_cases h3 : 3 ≤ commN (C.drop p) (B.drop (lpl B C p))
      · rw [if_pos h3]
        have c1 := c_addRow (x := 128 + commN (C.drop p) (B.drop (lpl B C p))) hR (by rw [List.length_append]; omega)
        have R1 := hR.set (cs := pre ++ putL ((C.drop (p - w)).take w) ++ [128 + commN (C.drop p) (B.drop (lpl B C p))]) (by simp only [List.length_append, List.length_singleton]; omega)
        have F1 : Ch 16 261 S _ := Ch.sq (k := 16) (a := 261) (S := S) (bs := pre ++ putL ((C.drop (p - w)).take w) ++ [128 + commN (C.drop p) (B.drop (lpl B C p))]) (by rw [hR.2.1]; simp only [List.length_append, List.length_singleton]; omega)
        have c2 := c_addRow (x := lpl B C p) R1 (by simp only [List.length_append, List.length_singleton]; omega)
        have R2 := R1.set (cs := pre ++ putL ((C.drop (p - w)).take w) ++ [128 + commN (C.drop p) (B.drop (lpl B C p))] ++ [lpl B C p]) (by simp only [List.length_append, List.length_singleton]; omega)
        have F2 := F1.tr (Ch.sq (k := 16) (a := 261) (bs := pre ++ putL ((C.drop (p - w)).take w) ++ [128 + commN (C.drop p) (B.drop (lpl B C p))] ++ [lpl B C p]) (by rw [R1.2.1]; simp only [List.length_append, List.length_singleton]; omega))
        have tq1 := qt (S := sqSet S 16 261 (pre ++ putL ((C.drop (p - w)).take w) ++ [128 + commN (C.drop p) (B.drop (lpl B C p))]))
        obtain ⟨S1, g1, g2, g3⟩ := ih (p + commN (C.drop p) (B.drop (lpl B C p))) 0 (pre ++ putL ((C.drop (p - w)).take w) ++ [128 + commN (C.drop p) (B.drop (lpl B C p))] ++ [lpl B C p]) _ (some (.int (nI (commN (C.drop p) (B.drop (lpl B C p)))))) (some (.int (nI (lpl B C p)))) (some (.int (nI B.length))) v8' (F2.len hL) (F2.slt (by omega) ho) (F2.slt (by omega) hb) (by omega) (by omega) (by omega) (by
          have : putL ((C.drop (p + commN (C.drop p) (B.drop (lpl B C p)) - 0)).take 0) = [] := by rw [List.take_zero]; rfl
          rw [this, List.append_nil]
          exact R2) (by simp only [List.length_append, List.length_singleton]; omega)
        refine ⟨S1, ?_, ?_, F2.tr g3⟩
        · rw [← g1]
          have e128 : (128 : Int32) + nI (commN (C.drop p) (B.drop (lpl B C p))) = nI (128 + commN (C.drop p) (B.drop (lpl B C p))) := nI_add 128 _
          simp only [s50_172, s50_174, s50_175, s50_178, s50_179, s50_182, s50_184, s50_185, s50_188, s50_189, s50_191, s50_194, s50_196, s50_198, s50_199, s50_201, s50_202, s50_203, s50_256, e128, List.length_cons, List.length_nil, Nat.reduceAdd, Nat.reduceLeDiff, Nat.zero_le, tq, tq1, c1, c2, vbind_some, vpush_none, nI_add]
          rw [if_neg (show ¬ nI (commN (C.drop p) (B.drop (lpl B C p))) < 3 from nI_nlt (b := 3) h3 (by omega)), if_pos trivial]
        · have e : pre ++ putL ((C.drop (p - w)).take w) ++ [128 + commN (C.drop p) (B.drop (lpl B C p))] ++ [lpl B C p] ++ diffF B C n (p + commN (C.drop p) (B.drop (lpl B C p))) 0 = pre ++ (putL ((C.drop (p - w)).take w) ++ ((128 + commN (C.drop p) (B.drop (lpl B C p))) :: lpl B C p :: diffF B C n (p + commN (C.drop p) (B.drop (lpl B C p))) 0)) := by simp
          rw [← e]
          exact g2
      · rw [if_neg h3]
        -- the literal is open
        have opn : ∃ Sa, runv 50 206 [some (.ref 249), some (.int (nI io)), some (.int (nI ib)), some (.int (if w = 0 then -1 else nI pre.length)), some (.int (nI p)), some (.int (nI (commN (C.drop p) (B.drop (lpl B C p))))), some (.int (nI (lpl B C p))), some (.int (nI B.length)), v8'] [] (hp S) = runv 50 220 [some (.ref 249), some (.int (nI io)), some (.int (nI ib)), some (.int (nI pre.length)), some (.int (nI p)), some (.int (nI (commN (C.drop p) (B.drop (lpl B C p))))), some (.int (nI (lpl B C p))), some (.int (nI B.length)), v8'] [] (hp Sa) ∧ SqIs Sa 16 261 256 (pre ++ w :: (C.drop (p - w)).take w) ∧ Ch 16 261 S Sa := by
          by_cases hw0 : w = 0
          · subst hw0
            have e : pre ++ putL ((C.drop (p - 0)).take 0) = pre := by rw [List.take_zero]; exact List.append_nil _
            rw [e] at hR
            have c1 := c_addRow (x := 0) hR (by omega)
            have R1 := hR.set (cs := pre ++ [0]) (by rw [List.length_append, List.length_singleton]; omega)
            have z0 : (nI 0 : Int32) = 0 := rfl
            rw [z0] at c1
            refine ⟨sqSet S 16 261 (pre ++ [0]), ?_, ?_, Ch.sq (by rw [hR.2.1, List.length_append, List.length_singleton]; omega)⟩
            · rw [if_pos rfl]
              simp only [s50_206, s50_207, s50_210, s50_211, s50_214, s50_215, s50_216, s50_217, q16, hR.1, List.length_cons, List.length_nil, Nat.reduceAdd, Nat.reduceLeDiff, Nat.zero_le, tq, c1, vbind_some, vpush_none]
              rw [if_neg (show ¬ (0 : Int32) ≤ -1 by decide)]
            · rw [List.take_zero]
              exact R1
          · refine ⟨S, ?_, ?_, Ch.rf⟩
            · rw [if_neg hw0]
              simp only [s50_206, s50_207]
              rw [if_pos (nI_pos' (by omega))]
            · have hl2 : ((C.drop (p - w)).take w).length = w := by rw [List.length_take, List.length_drop]; omega
              have e : putL ((C.drop (p - w)).take w) = w :: (C.drop (p - w)).take w := by
                unfold putL
                rw [hl2, if_neg hw0]
              rw [← e]
              exact hR
        obtain ⟨Sa, a1, a2, a3⟩ := opn
        have hl2 : ((C.drop (p - w)).take w).length = w := by rw [List.length_take, List.length_drop]; omega
        have alen : (pre ++ w :: (C.drop (p - w)).take w).length = pre.length + (w + 1) := by rw [List.length_append, List.length_cons, hl2]
        have gw := a2.get (i := pre.length) (by omega)
        have gw2 : (pre ++ w :: (C.drop (p - w)).take w).getD pre.length 0 = w := by
          rw [List.getD_eq_getElem?_getD, List.getElem?_append_right (Nat.le_refl _), Nat.sub_self]
          rfl
        rw [gw2] at gw
        obtain ⟨R3, F3⟩ := sq_put (y := w + 1) a2 (i := pre.length) (by omega)
        have e3 : (pre ++ w :: (C.drop (p - w)).take w).set pre.length (w + 1) = pre ++ (w + 1) :: (C.drop (p - w)).take w := by
          rw [List.set_append_right _ _ (Nat.le_refl _), Nat.sub_self]
          rfl
        rw [e3] at R3
        have blen : (pre ++ (w + 1) :: (C.drop (p - w)).take w).length = pre.length + (w + 1) := by rw [List.length_append, List.length_cons, hl2]
        have c4 := c_addRow (x := C.getD p 0) R3 (by omega)
        have R4 := R3.set (cs := pre ++ (w + 1) :: (C.drop (p - w)).take w ++ [C.getD p 0]) (by rw [List.length_append, blen, List.length_singleton]; omega)
        have F4 := (a3.tr F3).tr (Ch.sq (k := 16) (a := 261) (bs := pre ++ (w + 1) :: (C.drop (p - w)).take w ++ [C.getD p 0]) (by rw [R3.2.1, List.length_append, blen, List.length_singleton]; omega))
        have e4 : pre ++ (w + 1) :: (C.drop (p - w)).take w ++ [C.getD p 0] = pre ++ putL ((C.drop (p + 1 - (w + 1))).take (w + 1)) := by
          rw [← take_snoc hw h1, List.append_assoc]
          unfold putL
          rw [List.length_append, hl2, List.length_singleton, if_neg (by omega)]
          rfl
        rw [e4] at R4 F4 c4
        obtain ⟨S1, g1, g2, g3⟩ := ih (p + 1) (w + 1) pre _ (some (.int (nI (commN (C.drop p) (B.drop (lpl B C p)))))) (some (.int (nI (lpl B C p)))) (some (.int (nI B.length))) v8' (F4.len hL) (F4.slt (by omega) ho) (F4.slt (by omega) hb) (by omega) (by omega) (by omega) R4 (by omega)
        refine ⟨S1, ?_, g2, F4.tr g3⟩
        have n3 : runv 50 172 [some (.ref 249), some (.int (nI io)), some (.int (nI ib)), some (.int (if w = 0 then -1 else nI pre.length)), some (.int (nI p)), some (.int (nI (commN (C.drop p) (B.drop (lpl B C p))))), some (.int (nI (lpl B C p))), some (.int (nI B.length)), v8'] [] (hp S) = runv 50 206 [some (.ref 249), some (.int (nI io)), some (.int (nI ib)), some (.int (if w = 0 then -1 else nI pre.length)), some (.int (nI p)), some (.int (nI (commN (C.drop p) (B.drop (lpl B C p))))), some (.int (nI (lpl B C p))), some (.int (nI B.length)), v8'] [] (hp S) := by
          simp only [s50_172, s50_174, s50_175]
          rw [if_pos (show nI (commN (C.drop p) (B.drop (lpl B C p))) < 3 from nI_lt (b := 3) (by omega) (by omega))]
        rw [n3, a1, ← g1, if_neg (show ¬ w + 1 = 0 by omega)]
        have hLa := a3.len hL
        have Fb := a3.tr F3
        have ob := Fb.slt (by omega) ho
        have oc := ob.2.2.2.1 p h1
        simp only at oc
        have tqa := qt (S := au Sa 261 ((Sa.2 261).set pre.length (nI (w + 1))))
        have gr := fun (K : Value → Option (Option Value × vH)) => ga (S := Sa) (i := pre.length) (K := K) (a := 261) rfl a2.2.1 (show pre.length < 256 by omega) (by omega)
        have gw3 := fun (K2 : vH → Option (Option Value × vH)) => gs (S := Sa) (i := pre.length) (x := nI (w + 1)) (K2 := K2) (a := 261) rfl a2.2.1 (show pre.length < 256 by omega) (by omega)
        simp only [s50_220, s50_221, s50_224, s50_225, s50_226, s50_229, s50_230, s50_231, s50_232, s50_233, s50_234, s50_235, s50_236, s50_239, s50_241, s50_242, s50_243, s50_245, s50_246, s50_247, s50_250, s50_252, s50_253, s50_254, s50_256, q17, q5, gr, gw, nI_1, gw3, x24, nI_add, g254 (Fb.len hL) (show 24 * io + p < 1368 by omega), oc, List.length_cons, List.length_nil, Nat.reduceAdd, Nat.reduceLeDiff, Nat.zero_le, tqa, c4, vbind_some, vpush_none]
    · rw [if_neg h1]
      refine ⟨S, ?_, ?_, Ch.rf⟩
      · simp only [s50_32, s50_33, s50_36, s50_37, s50_38, s50_259, q4, g253 hL o1, o3]
        rw [if_pos (nI_le (by omega) (by omega))]
      · rw [show C.length = p by omega]
        exact hR
theorem c_difference {S : vSt} (hL : RLen S) (ho : SltIs S io (ko, C)) (hb : SltIs S ib (kb, B)) : ∃ S1, callv 50 [.ref 249, .int (nI io), .int (nI ib)] (hp S) = some (none, hp S1) ∧ SqIs S1 16 261 256 (diffL B C) ∧ Ch 16 261 S S1 := by
  have o1 := ho.1
  have o3 : (S.2 253).getD io 0 = nI C.length := ho.2.2.1
  have o5 : C.length ≤ 24 := ho.2.2.2.2.1
  have b1 := hb.1
  have b3 : (S.2 253).getD ib 0 = nI B.length := hb.2.2.1
  have h261 : (S.2 261).length = 256 := hL.2.2.2.2.2.2.2.2.2.2.2.1
  have R0 : SqIs (fu S 249 16 (nI 0)) 16 261 256 [] := ⟨fu_at _ _ _ _, h261, rfl, by simp⟩
  have F0 : Ch 16 261 S (fu S 249 16 (nI 0)) := Ch.fu
  have c1 := c_addRow (x := B.length) R0 (by simp)
  rw [List.nil_append] at c1
  have R1 := R0.set (cs := [B.length]) (by simp)
  have F1 := F0.tr (Ch.sq (k := 16) (a := 261) (bs := [B.length]) (by rw [R0.2.1]; simp))
  have c2 := c_addRow (x := C.length) R1 (by simp)
  have R2 := R1.set (cs := [B.length] ++ [C.length]) (by simp)
  have F2 := F1.tr (Ch.sq (k := 16) (a := 261) (bs := [B.length] ++ [C.length]) (by rw [R1.2.1]; simp))
  obtain ⟨S1, g1, g2, g3⟩ := c_df_loop (io := io) (ib := ib) (C.length + 1) 0 0 ([B.length] ++ [C.length]) _ none none none none (F2.len hL) (F2.slt (by omega) ho) (F2.slt (by omega) hb) (by omega) (by omega) (by omega) (by
    rw [List.take_zero]
    exact R2) (by simp only [List.length_append, List.length_singleton]; omega)
  refine ⟨S1, ?_, g2, F2.tr g3⟩
  rw [← g1]
  have tq0 := qt (S := fu S 249 16 (nI 0))
  have tq1 := qt (S := sqSet (fu S 249 16 (nI 0)) 16 261 [B.length])
  have e16 : ∀ (K2 : vH → Option (Option Value × vH)), vpf (hp S) 249 9 16 (.int 0) K2 = K2 (hp (fu S 249 16 (nI 0))) := fun K2 => q16p
  have z1 : ((fu S 249 16 (nI 0)).2 253).getD ib 0 = nI B.length := b3
  have z2 : ((sqSet (fu S 249 16 (nI 0)) 16 261 [B.length]).2 253).getD io 0 = nI C.length := by rw [sq_2 (by omega)]; exact o3
  show runv 50 0 [some (.ref 249), some (.int (nI io)), some (.int (nI ib)), none, none, none, none, none, none] [] (hp S) = _
  simp only [s50_0, s50_1, s50_2, s50_5, s50_6, s50_7, s50_10, s50_11, s50_12, s50_15, s50_16, s50_17, s50_20, s50_21, s50_22, s50_25, s50_26, s50_27, s50_28, e16, q4, g253 (F0.len hL) b1, z1, g253 (F1.len hL) o1, z2, List.length_cons, List.length_nil, Nat.reduceAdd, Nat.reduceLeDiff, Nat.zero_le, tq0, tq1, c1, c2, vbind_some, vpush_none]
  rfl
end REF19
