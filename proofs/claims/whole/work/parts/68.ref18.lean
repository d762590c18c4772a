/-! the reference: hashTo, addRow, times, writePacked -/
section REF18
variable {S : vSt} {bs rw_ : List Nat}
theorem c_hashTo_loop (h : SqIs S 1 250 640 bs) (hb : ∀ x ∈ bs, x < 256) {n : Nat} (hn : n ≤ bs.length) : ∀ k i g, i + k = n → g < 65521 → runv 53 5 [some (.ref 249), some (.int (nI n)), some (.int (nI g)), some (.int (nI i))] [] (hp S) = some (some (.int (nI (hashN g ((bs.take n).drop i)))), hp S) := by
  have h4 := h.2.2.2
  intro k
  induction k with
  | zero =>
    intro i g hi hg
    rw [s53_5]
    simp only [s53_6, s53_7, s53_27, s53_28]
    rw [if_pos (nI_le (by omega) (by omega)), List.drop_of_length_le (by rw [List.length_take]; omega)]
    rfl
  | succ k ih =>
    intro i g hi hg
    have hib : i < bs.length := by omega
    have hx := getD_lt hb i
    rw [s53_5]
    simp only [s53_6, s53_7, s53_10, s53_11, s53_12, s53_15, s53_16, s53_17, s53_20, s53_21, s53_24, q0, ga rfl h.2.1 (show i < 640 by omega) (by omega), h.get hib, List.length_cons, List.length_nil, Nat.reduceAdd, Nat.reduceLeDiff, Nat.zero_le, c_fold hg (show bs.getD i 0 < 65536 by omega), vbind_some, vpush_some, nI_1]
    have e : (bs.take n).drop i = bs.getD i 0 :: (bs.take n).drop (i + 1) := by
      rw [List.drop_eq_getElem_cons (show i < (bs.take n).length by rw [List.length_take]; omega), List.getElem_take, List.getD_eq_getElem?_getD, List.getElem?_eq_getElem hib]
      rfl
    rw [if_neg (nI_ge (by omega) (by omega)), ih (i + 1) _ (by omega) (hst_lt _ _), e]
    rfl
theorem c_hashTo (h : SqIs S 1 250 640 bs) (hb : ∀ x ∈ bs, x < 256) {n : Nat} (hn : n ≤ bs.length) : callv 53 [.ref 249, .int (nI n)] (hp S) = some (some (.int (nI (hashN 7 (bs.take n)))), hp S) := by
  have e := c_hashTo_loop h hb hn n 0 7 (by omega) (by omega)
  rw [List.drop_zero] at e
  rw [← e]
  show runv 53 0 [some (.ref 249), some (.int (nI n)), none, none] [] (hp S) = _
  simp only [s53_0, s53_2, s53_3, s53_4]
  rfl
theorem c_wr1 {x : Nat} (h : SqIs S 1 250 640 bs) (hl : bs.length < 640) : callv 46 [.ref 249, .int (nI x)] (hp S) = some (none, hp (sqSet S 1 250 (bs ++ [x]))) := c_rwrite h hl
theorem c_addRow {x : Nat} (h : SqIs S 16 261 256 bs) (hl : bs.length < 256) : callv 49 [.ref 249, .int (nI x)] (hp S) = some (none, hp (sqSet S 16 261 (bs ++ [x]))) := by
  have e1 : ∀ l, (au S 261 l).1 249 16 = nI bs.length := fun l => h.1
  show runv 49 0 [some (.ref 249), some (.int (nI x))] [] (hp S) = _
  simp only [s49_0, s49_1, s49_4, s49_5, s49_8, s49_9, s49_10, s49_11, s49_12, s49_15, s49_16, s49_17, s49_20, q16, q17, h.1, gs (x := nI x) rfl h.2.1 hl (by omega), e1, q16p, nI_1, sq_push h hl]
theorem c_times_loop (h : SqIs S 16 261 256 bs) (hb : ∀ x ∈ bs, x < 256) {p : Nat} (hp0 : p < bs.length) : ∀ k e, e + k = bs.length → p ≤ e → runv 47 2 [some (.ref 249), some (.int (nI p)), some (.int (nI e))] [] (hp S) = some (some (.int (nI (e - p + ((bs.drop e).takeWhile (fun x => x == bs.getD p 0)).length))), hp S) := by
  have h4 := h.2.2.2
  intro k
  induction k with
  | zero =>
    intro e he hpe
    rw [s47_2]
    simp only [s47_3, s47_4, s47_7, s47_32, s47_33, s47_34, s47_35, q16, h.1]
    rw [if_pos (nI_le (by omega) (by omega)), List.drop_of_length_le (by omega), pk_sub hpe]
    rfl
  | succ k ih =>
    intro e he hpe
    have e1 := getD_lt hb e
    have e2 := getD_lt hb p
    rw [s47_2]
    simp only [s47_3, s47_4, s47_7, s47_10, s47_11, s47_14, s47_15, s47_16, s47_17, s47_20, s47_21, s47_22, s47_25, s47_26, s47_27, s47_28, s47_29, s47_32, s47_33, s47_34, s47_35, q16, q17, h.1, ga rfl h.2.1 (show e < 256 by omega) (by omega), ga rfl h.2.1 (show p < 256 by omega) (by omega), h.get (show e < bs.length by omega), h.get hp0, nI_inj (show bs.getD e 0 < 2 ^ 31 by omega) (show bs.getD p 0 < 2 ^ 31 by omega), nI_1]
    rw [if_neg (nI_ge (by omega) (by omega)), ih (e + 1) (by omega) (by omega), drop_cons (bs := bs) (i := e) (by omega), List.takeWhile_cons]
    by_cases hq : bs.getD e 0 = bs.getD p 0
    · rw [if_pos hq, if_pos (by simp only [hq, beq_self_eq_true]), List.length_cons, show e + 1 - p + ((bs.drop (e + 1)).takeWhile (fun x => x == bs.getD p 0)).length = e - p + (((bs.drop (e + 1)).takeWhile (fun x => x == bs.getD p 0)).length + 1) by omega]
    · rw [if_neg hq, if_neg (by simp only [beq_iff_eq]; exact hq), pk_sub hpe]
      rfl
theorem c_times (h : SqIs S 16 261 256 bs) (hb : ∀ x ∈ bs, x < 256) {p : Nat} (hp0 : p < bs.length) : callv 47 [.ref 249, .int (nI p)] (hp S) = some (some (.int (nI (sameN bs p))), hp S) := by
  have e := c_times_loop h hb hp0 (bs.length - p) p (by omega) (by omega)
  rw [Nat.sub_self, Nat.zero_add] at e
  show runv 47 0 [some (.ref 249), some (.int (nI p)), none] [] (hp S) = _
  simp only [s47_0, s47_1]
  exact e
theorem c_wpl_loop (h : SqIs S 16 261 256 bs) (hb : ∀ x ∈ bs, x < 256) {p : Nat} {v2 v4 : Option Value} : ∀ n e, bs.length ≤ e + n → p ≤ e → e ≤ bs.length → runv 48 63 [some (.ref 249), some (.int (nI p)), v2, some (.int (nI e)), v4] [] (hp S) = runv 48 96 [some (.ref 249), some (.int (nI p)), v2, some (.int (nI (plE bs p n e))), v4] [] (hp S) := by
  have h4 := h.2.2.2
  have tq := qt (S := S)
  intro n
  induction n with
  | zero =>
    intro e hn hpe hel
    rw [s48_63]
    simp only [s48_64, s48_65, s48_68, q16, h.1]
    rw [if_pos (nI_le (by omega) (by omega))]
    rfl
  | succ n ih =>
    intro e hn hpe hel
    rw [s48_63]
    by_cases h1 : e < bs.length
    · have hs := sameN_le bs e
      simp only [s48_64, s48_65, s48_68, s48_71, s48_72, s48_73, s48_74, s48_77, s48_80, s48_81, s48_82, s48_85, s48_86, s48_89, s48_90, s48_91, s48_92, s48_93, q16, h.1, pk_sub hpe, List.length_cons, List.length_nil, Nat.reduceAdd, Nat.reduceLeDiff, Nat.zero_le, tq, c_times h hb h1, vbind_some, vpush_some, nI_1]
      rw [if_neg (nI_ge (by omega) (by omega))]
      unfold plE
      by_cases h2 : e - p < 128
      · rw [if_neg (show ¬ (128 : Int32) ≤ nI (e - p) from nI_ge (b := 128) h2 (by omega))]
        by_cases h3 : sameN bs e < 3
        · rw [if_neg (show ¬ (3 : Int32) ≤ nI (sameN bs e) from nI_ge (b := 3) h3 (by omega)), if_pos ⟨h1, h2, h3⟩]
          exact ih (e + 1) (by omega) (by omega) (by omega)
        · rw [if_pos (show (3 : Int32) ≤ nI (sameN bs e) from nI_le (a := 3) (by omega) (by omega)), if_neg (fun q => h3 q.2.2)]
      · rw [if_pos (show (128 : Int32) ≤ nI (e - p) from nI_le (a := 128) (by omega) (by omega)), if_neg (fun q => h2 q.2.1)]
    · simp only [s48_64, s48_65, s48_68, q16, h.1]
      unfold plE
      rw [if_pos (nI_le (by omega) (by omega)), if_neg (fun q => h1 q.1)]
theorem c_wcp_loop {p q : Nat} {v2 : Option Value} (hq : q ≤ bs.length) : ∀ n k S ts, k + n = q → SqIs S 16 261 256 bs → SqIs S 1 250 640 ts → ts.length + n ≤ 640 → runv 48 108 [some (.ref 249), some (.int (nI p)), v2, some (.int (nI q)), some (.int (nI k))] [] (hp S) = runv 48 131 [some (.ref 249), some (.int (nI p)), v2, some (.int (nI q)), some (.int (nI q))] [] (hp (sqSet S 1 250 (ts ++ (bs.drop k).take n))) := by
  intro n
  induction n with
  | zero =>
    intro k S ts hk h hT hl
    have h4 := h.2.2.2
    have : k = q := by omega
    subst this
    rw [s48_108]
    simp only [s48_110, s48_111]
    rw [if_pos (nI_le (Nat.le_refl _) (by omega)), List.take_zero, List.append_nil, hT.self]
  | succ n ih =>
    intro k S ts hk h hT hl
    have h4 := h.2.2.2
    have hkb : k < bs.length := by omega
    have tq := qt (S := S)
    have e2 := ih (k + 1) _ (ts ++ [bs.getD k 0]) (by omega) (h.other (N2 := 640) (k2 := 1) (a2 := 250) (ds := ts ++ [bs.getD k 0]) (by omega) (by omega)) (hT.set (by rw [List.length_append, List.length_singleton]; omega)) (by rw [List.length_append, List.length_singleton]; omega)
    rw [sq_grow (by simp), List.append_assoc] at e2
    have e3 : [bs.getD k 0] ++ (bs.drop (k + 1)).take n = (bs.drop k).take (n + 1) := by
      rw [drop_cons hkb]
      rfl
    rw [e3] at e2
    rw [← e2, s48_108]
    simp only [s48_110, s48_111, s48_114, s48_115, s48_116, s48_119, s48_121, s48_122, s48_125, s48_128, q17, ga rfl h.2.1 (show k < 256 by omega) (by omega), h.get hkb, List.length_cons, List.length_nil, Nat.reduceAdd, Nat.reduceLeDiff, Nat.zero_le, tq, c_wr1 hT (show ts.length < 640 by omega), vbind_some, vpush_none, nI_1]
    rw [if_neg (nI_ge (by omega) (by omega))]
theorem c_wpk_loop (hb : ∀ x ∈ bs, x < 256) : ∀ n p S ts v2 v3 v4, SqIs S 16 261 256 bs → SqIs S 1 250 640 ts → bs.length < p + n → p ≤ bs.length → ts.length + (packF bs n p).length ≤ 640 → runv 48 2 [some (.ref 249), some (.int (nI p)), v2, v3, v4] [] (hp S) = some (none, hp (sqSet S 1 250 (ts ++ packF bs n p))) := by
  intro n
  induction n with
  | zero => intro p S ts v2 v3 v4 _ _ h1 h2; omega
  | succ n ih =>
    intro p S ts v2 v3 v4 h hT h1 h2 hl
    have h4 := h.2.2.2
    have tq := qt (S := S)
    rw [s48_2]
    unfold packF at hl ⊢
    by_cases hpl : p < bs.length
    · rw [if_pos hpl] at hl ⊢
      have hs := sameN_le bs p
      have st : runv 48 3 [some (.ref 249), some (.int (nI p)), v2, v3, v4] [.int (nI p)] (hp S) = if nI (sameN bs p) < 3 then runv 48 61 [some (.ref 249), some (.int (nI p)), some (.int (nI (sameN bs p))), v3, v4] [] (hp S) else runv 48 21 [some (.ref 249), some (.int (nI p)), some (.int (nI (sameN bs p))), v3, v4] [] (hp S) := by
        simp only [s48_3, s48_4, s48_7, s48_10, s48_11, s48_12, s48_15, s48_16, s48_17, s48_18, q16, h.1, List.length_cons, List.length_nil, Nat.reduceAdd, Nat.reduceLeDiff, Nat.zero_le, tq, c_times h hb hpl, vbind_some, vpush_some]
        rw [if_neg (nI_ge (by omega) (by omega))]
      rw [st]
      by_cases h3 : 3 ≤ sameN bs p
      · rw [if_pos h3] at hl ⊢
        rw [if_neg (show ¬ nI (sameN bs p) < 3 from nI_nlt (b := 3) h3 (by omega))]
        simp only [List.length_append, List.length_cons, List.length_nil] at hl
        have st2 : runv 48 21 [some (.ref 249), some (.int (nI p)), some (.int (nI (sameN bs p))), v3, v4] [] (hp S) = runv 48 36 [some (.ref 249), some (.int (nI p)), some (.int (nI (min (sameN bs p) 130))), v3, v4] [] (hp S) := by
          simp only [s48_21, s48_22, s48_25, s48_28, s48_31, s48_34, s48_35]
          by_cases h5 : sameN bs p ≤ 130
          · rw [if_pos (show nI (sameN bs p) ≤ 130 from nI_le (b := 130) h5 (by omega)), Nat.min_eq_left h5]
          · rw [if_neg (show ¬ nI (sameN bs p) ≤ 130 from nI_ge (a := 130) (by omega) (by omega)), Nat.min_eq_right (by omega)]
            rfl
        have hm : min (sameN bs p) 130 ≤ sameN bs p ∧ 3 ≤ min (sameN bs p) 130 := by omega
        have W1 := hT.set (cs := ts ++ [min (sameN bs p) 130 + 125]) (by rw [List.length_append, List.length_singleton]; omega)
        have R1 := h.other (N2 := 640) (k2 := 1) (a2 := 250) (ds := ts ++ [min (sameN bs p) 130 + 125]) (by omega) (by omega)
        have c1 := c_wr1 (x := min (sameN bs p) 130 + 125) hT (show ts.length < 640 by omega)
        have c2 := c_wr1 (x := bs.getD p 0) W1 (by rw [List.length_append, List.length_singleton]; omega)
        have W2 := W1.set (cs := ts ++ [min (sameN bs p) 130 + 125] ++ [bs.getD p 0]) (by simp only [List.length_append, List.length_singleton]; omega)
        have R2 := R1.other (N2 := 640) (k2 := 1) (a2 := 250) (ds := ts ++ [min (sameN bs p) 130 + 125] ++ [bs.getD p 0]) (by omega) (by omega)
        have tq1 := qt (S := sqSet S 1 250 (ts ++ [min (sameN bs p) 130 + 125]))
        have e2 := ih (p + min (sameN bs p) 130) _ _ (some (.int (nI (min (sameN bs p) 130)))) v3 v4 R2 W2 (by omega) (by omega) (by simp only [List.length_append, List.length_singleton]; omega)
        rw [sq_grow (by simp), sq_grow (by simp)] at e2
        have e125 : nI (min (sameN bs p) 130) + 125 = nI (min (sameN bs p) 130 + 125) := nI_add _ 125
        rw [st2]
        simp only [s48_36, s48_37, s48_38, s48_40, s48_41, s48_44, s48_45, s48_46, s48_49, s48_50, s48_51, s48_54, s48_55, s48_56, s48_57, s48_58, s48_133, q17, e125, ga rfl R1.2.1 (show p < 256 by omega) (by omega), R1.get hpl, List.length_cons, List.length_nil, Nat.reduceAdd, Nat.reduceLeDiff, Nat.zero_le, tq, tq1, c1, c2, vbind_some, vpush_none, nI_add]
        rw [sq_grow (by simp), e2]
        simp only [List.append_assoc]
        rfl
      · rw [if_neg h3] at hl ⊢
        rw [if_pos (show nI (sameN bs p) < 3 from nI_lt (b := 3) (by omega) (by omega))]
        simp only [List.length_cons, List.length_append, List.length_take, List.length_drop] at hl
        obtain ⟨b1, b2, b3⟩ := plN_in hpl
        have hq : plE bs p (bs.length + 1) p = p + plN bs p := by
          have e : plE bs p (bs.length + 1) p = plE bs p bs.length (p + 1) := by
            show (if p < bs.length ∧ p - p < 128 ∧ sameN bs p < 3 then plE bs p bs.length (p + 1) else p) = _
            exact if_pos ⟨hpl, by omega, by omega⟩
          rw [e]
          unfold plN at b1 b2 ⊢
          omega
        have st2 : runv 48 61 [some (.ref 249), some (.int (nI p)), some (.int (nI (sameN bs p))), v3, v4] [] (hp S) = runv 48 96 [some (.ref 249), some (.int (nI p)), some (.int (nI (sameN bs p))), some (.int (nI (p + plN bs p))), v4] [] (hp S) := by
          rw [← hq, ← c_wpl_loop h hb (bs.length + 1) p (by omega) (by omega) (by omega)]
          simp only [s48_61, s48_62]
        rw [st2]
        have W1 := hT.set (cs := ts ++ [plN bs p - 1]) (by rw [List.length_append, List.length_singleton]; omega)
        have R1 := h.other (N2 := 640) (k2 := 1) (a2 := 250) (ds := ts ++ [plN bs p - 1]) (by omega) (by omega)
        have c1 := c_wr1 (x := plN bs p - 1) hT (show ts.length < 640 by omega)
        have e1 : nI (p + plN bs p) - nI p - 1 = nI (plN bs p - 1) := by
          rw [pk_sub (by omega), show p + plN bs p - p = plN bs p - 1 + 1 by omega, nI_pred]
        have c2 := c_wcp_loop (v2 := some (.int (nI (sameN bs p)))) (p := p) (q := p + plN bs p) (by omega) (plN bs p) p _ _ rfl R1 W1 (by rw [List.length_append, List.length_singleton]; omega)
        rw [sq_grow (by simp)] at c2
        have W2 := W1.set (cs := ts ++ [plN bs p - 1] ++ (bs.drop p).take (plN bs p)) (by simp only [List.length_append, List.length_singleton, List.length_take, List.length_drop]; omega)
        have R2 := R1.other (N2 := 640) (k2 := 1) (a2 := 250) (ds := ts ++ [plN bs p - 1] ++ (bs.drop p).take (plN bs p)) (by omega) (by omega)
        rw [sq_grow (by simp)] at W2 R2
        have e2 := ih (p + plN bs p) _ _ (some (.int (nI (sameN bs p)))) (some (.int (nI (p + plN bs p)))) (some (.int (nI (p + plN bs p)))) R2 W2 (by omega) (by omega) (by simp only [List.length_append, List.length_singleton, List.length_take, List.length_drop]; omega)
        rw [sq_grow (by simp)] at e2
        simp only [s48_96, s48_97, s48_98, s48_99, s48_100, s48_101, s48_102, s48_105, s48_106, e1, List.length_cons, List.length_nil, Nat.reduceAdd, Nat.reduceLeDiff, Nat.zero_le, tq, c1, vbind_some, vpush_none]
        rw [c2]
        simp only [s48_131, s48_132, s48_133]
        rw [e2]
        simp only [List.append_assoc, List.singleton_append]
        rfl
    · rw [if_neg hpl]
      simp only [s48_3, s48_4, s48_7, s48_136, q16, h.1]
      rw [if_pos (nI_le (by omega) (by omega)), List.append_nil, hT.self]
theorem c_writePacked {ts : List Nat} (h : SqIs S 16 261 256 bs) (hb : ∀ x ∈ bs, x < 256) (hT : SqIs S 1 250 640 ts) (hl : ts.length + (packL bs).length ≤ 640) : callv 48 [.ref 249] (hp S) = some (none, hp (sqSet S 1 250 (ts ++ packL bs))) := by
  have e := c_wpk_loop hb (bs.length + 1) 0 S ts none none none h hT (by omega) (by omega) hl
  show runv 48 0 [some (.ref 249), none, none, none, none] [] (hp S) = _
  simp only [s48_0, s48_1]
  exact e
end REF18
