/-! the reference: a difference applied, the loop and the whole -/
section REF28
variable {e b kb : Nat} {B D : List Nat}
def apC (c : Nat) : Nat := if c < 128 then c else c - 128
def apQ (D : List Nat) (q : Nat) : Nat := if D.getD q 0 < 128 then 0 else if q + 1 < D.length then D.getD (q + 1) 0 else 0
def apT (B D : List Nat) (N q l : Nat) : Bool := decide (0 < apC (D.getD q 0)) && (decide (l + apC (D.getD q 0) ≤ N) && (if D.getD q 0 < 128 then decide (q + apC (D.getD q 0) < D.length) else decide (q + 1 < D.length ∧ apQ D q + apC (D.getD q 0) ≤ B.length)))
theorem c_apA {S : vSt} {q l N : Nat} {v8 v9 v10 v11 v12 : Option Value} (he : e < 16) (hD : D.length ≤ 255) (bd : ∀ x ∈ D, x < 256) (hL : RLen S) (hE : EB S e D) (hq : q < D.length) : runv 62 78 [some (.ref 249), some (.int (nI e)), some (.int (nI b)), some (.int (nI (256 * e + q))), some (.int (nI (256 * e + D.length))), some (.int (nI l)), some (.int (bI true)), some (.int (nI N)), v8, v9, v10, v11, v12] [] (hp S) = runv 62 161 [some (.ref 249), some (.int (nI e)), some (.int (nI b)), some (.int (nI (256 * e + q))), some (.int (nI (256 * e + D.length))), some (.int (nI l)), some (.int (bI true)), some (.int (nI N)), some (.int (nI (D.getD q 0))), some (.int (bI (decide (D.getD q 0 < 128)))), some (.int (nI (apC (D.getD q 0)))), some (.int (nI (apQ D q))), v12] [] (hp S) := by
  have l265 : (S.2 265).length = 4096 := hL.2.2.2.2.2.2.2.2.2.2.2.2.2.2.2.1
  have hx := getD_lt bd q
  have r := fun (K : Value → Option (Option Value × vH)) => ga (S := S) (i := 256 * e + q) (K := K) (a := 265) rfl l265 (by omega) (by omega)
  have hr := hE q hq
  have nq : ¬ nI (256 * e + D.length) ≤ nI (256 * e + q) := nI_ge (by omega) (by omega)
  rw [s62_78]
  unfold apC apQ
  by_cases c : D.getD q 0 < 128
  · have n1 : ¬ (128 : Int32) ≤ nI (D.getD q 0) := nI_ge (b := 128) c (by omega)
    rw [if_pos c, if_pos c, decide_eq_true c]
    simp only [s62_80, s62_83, s62_84, s62_86, s62_89, s62_90, s62_93, s62_94, s62_95, s62_97, s62_99, s62_102, s62_105, s62_106, s62_109, s62_110, s62_112, s62_114, s62_117, s62_119, s62_122, s62_124, s62_127, s62_128, s62_130, s62_132, s62_135, s62_136, s62_139, s62_140, s62_141, s62_142, s62_144, s62_147, s62_148, s62_151, s62_152, s62_153, s62_154, s62_155, s62_158, s62_159, if_bI, if_neg nq, q23, r, hr, if_neg n1]
    rw [if_pos trivial, if_neg (show ¬ (1 : Int32) = 0 by decide), if_neg (show ¬ (1 : Int32) = 0 by decide)]
    rfl
  · have n1 : (128 : Int32) ≤ nI (D.getD q 0) := nI_le (a := 128) (by omega) (by omega)
    have e128 : nI (D.getD q 0) - 128 = nI (D.getD q 0 - 128) := pk_sub (b := 128) (by omega)
    rw [if_neg c, if_neg c, decide_eq_false c]
    by_cases d : q + 1 < D.length
    · have r2 := fun (K : Value → Option (Option Value × vH)) => ga (S := S) (i := 256 * e + (q + 1)) (K := K) (a := 265) rfl l265 (by omega) (by omega)
      have hr2 := hE (q + 1) d
      have n2 : ¬ nI (256 * e + D.length) ≤ nI (256 * e + (q + 1)) := nI_ge (by omega) (by omega)
      rw [if_pos d]
      simp only [s62_80, s62_83, s62_84, s62_86, s62_89, s62_90, s62_93, s62_94, s62_95, s62_97, s62_99, s62_102, s62_105, s62_106, s62_109, s62_110, s62_112, s62_114, s62_117, s62_119, s62_122, s62_124, s62_127, s62_128, s62_130, s62_132, s62_135, s62_136, s62_139, s62_140, s62_141, s62_142, s62_144, s62_147, s62_148, s62_151, s62_152, s62_153, s62_154, s62_155, s62_158, s62_159, if_bI, if_neg nq, q23, r, hr, if_pos n1, e128, nI_1, show 256 * e + q + 1 = 256 * e + (q + 1) by omega, if_neg n2, r2, hr2]
      rw [if_pos trivial, if_pos trivial, if_pos trivial]
      rfl
    · have n2 : nI (256 * e + D.length) ≤ nI (256 * e + (q + 1)) := nI_le (by omega) (by omega)
      rw [if_neg d]
      simp only [s62_80, s62_83, s62_84, s62_86, s62_89, s62_90, s62_93, s62_94, s62_95, s62_97, s62_99, s62_102, s62_105, s62_106, s62_109, s62_110, s62_112, s62_114, s62_117, s62_119, s62_122, s62_124, s62_127, s62_128, s62_130, s62_132, s62_135, s62_136, s62_139, s62_140, s62_141, s62_142, s62_144, s62_147, s62_148, s62_151, s62_152, s62_153, s62_154, s62_155, s62_158, s62_159, if_bI, if_neg nq, q23, r, hr, if_pos n1, e128, nI_1, show 256 * e + q + 1 = 256 * e + (q + 1) by omega, if_pos n2]
      rw [if_pos trivial, if_pos trivial, if_pos trivial]
      rfl
theorem c_apB {S : vSt} {q l N : Nat} {v8 v12 : Option Value} (hD : D.length ≤ 255) (bd : ∀ x ∈ D, x < 256) (hL : RLen S) (hB : SltIs S b (kb, B)) (he : e < 16) (hl : l ≤ 24) (hN : N ≤ 24) (hq : q < D.length) : runv 62 161 [some (.ref 249), some (.int (nI e)), some (.int (nI b)), some (.int (nI (256 * e + q))), some (.int (nI (256 * e + D.length))), some (.int (nI l)), some (.int (bI true)), some (.int (nI N)), v8, some (.int (bI (decide (D.getD q 0 < 128)))), some (.int (nI (apC (D.getD q 0)))), some (.int (nI (apQ D q))), v12] [] (hp S) = runv 62 225 [some (.ref 249), some (.int (nI e)), some (.int (nI b)), some (.int (nI (256 * e + q))), some (.int (nI (256 * e + D.length))), some (.int (nI l)), some (.int (bI (apT B D N q l))), some (.int (nI N)), v8, some (.int (bI (decide (D.getD q 0 < 128)))), some (.int (nI (apC (D.getD q 0)))), some (.int (nI (apQ D q))), some (.int (nI 0))] [] (hp S) := by
  have hx := getD_lt bd q
  have hc : apC (D.getD q 0) < 256 := by unfold apC; split <;> omega
  have hf : apQ D q < 256 := by
    unfold apQ
    split
    · omega
    · split
      · exact getD_lt bd (q + 1)
      · omega
  have hB3 : (S.2 253).getD b 0 = nI B.length := hB.2.2.1
  have hB5 : B.length ≤ 24 := hB.2.2.2.2.1
  have fin : ∀ g : Bool, runv 62 220 [some (.ref 249), some (.int (nI e)), some (.int (nI b)), some (.int (nI (256 * e + q))), some (.int (nI (256 * e + D.length))), some (.int (nI l)), some (.int (bI true)), some (.int (nI N)), v8, some (.int (bI (decide (D.getD q 0 < 128)))), some (.int (nI (apC (D.getD q 0)))), some (.int (nI (apQ D q))), v12] [.int (bI g)] (hp S) = runv 62 225 [some (.ref 249), some (.int (nI e)), some (.int (nI b)), some (.int (nI (256 * e + q))), some (.int (nI (256 * e + D.length))), some (.int (nI l)), some (.int (bI g)), some (.int (nI N)), v8, some (.int (bI (decide (D.getD q 0 < 128)))), some (.int (nI (apC (D.getD q 0)))), some (.int (nI (apQ D q))), some (.int (nI 0))] [] (hp S) := fun g => by
    simp only [s62_220, s62_222, s62_223]
    rfl
  unfold apT
  simp only [s62_161, s62_163, s62_166, s62_168, s62_170, s62_171, s62_173, s62_176, s62_178, s62_181, s62_182, s62_184, s62_185, s62_187, s62_190, s62_193, s62_194, s62_195, s62_196, s62_198, s62_201, s62_203, s62_205, s62_206, s62_207, s62_210, s62_211, s62_212, s62_215, s62_216, s62_219, if_bI, nI_add, nI_1, q4, g253 hL hB.1, hB3, decide_eq_true_eq]
  by_cases c1 : 0 < apC (D.getD q 0)
  · rw [if_neg (show ¬ nI (apC (D.getD q 0)) ≤ 0 from nI_nle c1 (by omega)), decide_eq_true c1, Bool.true_and]
    by_cases c2 : l + apC (D.getD q 0) ≤ N
    · rw [if_neg (nI_nlt (by omega) (by omega)), decide_eq_true c2, Bool.true_and]
      by_cases c3 : D.getD q 0 < 128
      · rw [if_pos c3, if_pos c3]
        by_cases c4 : q + apC (D.getD q 0) < D.length
        · rw [if_neg (nI_ge (by omega) (by omega)), decide_eq_true c4]
          exact fin true
        · rw [if_pos (nI_le (by omega) (by omega)), decide_eq_false c4]
          exact fin false
      · rw [if_neg c3, if_neg c3]
        by_cases c4 : q + 1 < D.length
        · rw [if_neg (nI_ge (by omega) (by omega))]
          by_cases c5 : apQ D q + apC (D.getD q 0) ≤ B.length
          · rw [if_neg (nI_nlt (by omega) (by omega)), decide_eq_true (show q + 1 < D.length ∧ apQ D q + apC (D.getD q 0) ≤ B.length from ⟨c4, c5⟩)]
            exact fin true
          · rw [if_pos (nI_lt (by omega) (by omega)), decide_eq_false (show ¬ (q + 1 < D.length ∧ apQ D q + apC (D.getD q 0) ≤ B.length) from fun z => c5 z.2)]
            exact fin false
        · rw [if_pos (nI_le (by omega) (by omega)), decide_eq_false (show ¬ (q + 1 < D.length ∧ apQ D q + apC (D.getD q 0) ≤ B.length) from fun z => c4 z.1)]
          exact fin false
    · rw [if_pos (nI_lt (by omega) (by omega)), decide_eq_false c2, Bool.false_and]
      exact fin false
  · rw [if_pos (show nI (apC (D.getD q 0)) ≤ 0 from nI_le (b := 0) (by omega) (by omega)), decide_eq_false c1, Bool.false_and]
    exact fin false
theorem c_apE {S : vSt} {q l N : Nat} {v4 v8 v11 v12 : Option Value} {g : Bool} (pt : Bool) {c : Nat} : runv 62 295 [some (.ref 249), some (.int (nI e)), some (.int (nI b)), some (.int (nI (256 * e + q))), v4, some (.int (nI l)), some (.int (bI g)), some (.int (nI N)), v8, some (.int (bI pt)), some (.int (nI c)), v11, v12] [] (hp S) = runv 62 78 [some (.ref 249), some (.int (nI e)), some (.int (nI b)), some (.int (nI (256 * e + (if pt = true then q + 1 + c else q + 2)))), v4, some (.int (nI (l + c))), some (.int (bI g)), some (.int (nI N)), v8, some (.int (bI pt)), some (.int (nI c)), v11, v12] [] (hp S) := by
  have e2 : ∀ x : Nat, nI x + 2 = nI (x + 2) := fun x => nI_add x 2
  simp only [s62_295, s62_297, s62_299, s62_300, s62_302, s62_304, s62_307, s62_308, s62_309, s62_310, s62_312, s62_313, s62_316, s62_317, s62_318, s62_319, s62_320, if_bI, nI_1, nI_add, e2]
  cases pt with
  | true =>
    rw [if_pos rfl, if_pos rfl, show 256 * e + q + 1 + c = 256 * e + (q + 1 + c) by omega]
  | false =>
    rw [if_neg (by decide), if_neg (by decide), show 256 * e + q + 2 = 256 * e + (q + 2) by omega]
theorem c_ap_loop {N : Nat} (he : e < 16) (hb57 : b < 57) (hD : D.length ≤ 255) (hne : b ≠ 40 + e) (bd : ∀ x ∈ D, x < 256) (hN : N ≤ 24) : ∀ n q (ts : List Nat) S v8 v9 v10 v11 v12, D.length < q + n → q ≤ 300 → ts.length ≤ 24 → RLen S → EB S e D → SltIs S b (kb, B) → SB S (40 + e) ts → ∃ (S1 : vSt) (v3 : Option Value) (x5 : Int32) (w8 w9 w10 w11 w12 : Option Value), SC (40 + e) S S1 ∧ (match apF B D N n q ts with
    | some us => runv 62 78 [some (.ref 249), some (.int (nI e)), some (.int (nI b)), some (.int (nI (256 * e + q))), some (.int (nI (256 * e + D.length))), some (.int (nI ts.length)), some (.int (bI true)), some (.int (nI N)), v8, v9, v10, v11, v12] [] (hp S) = runv 62 323 [some (.ref 249), some (.int (nI e)), some (.int (nI b)), v3, some (.int (nI (256 * e + D.length))), some (.int (nI us.length)), some (.int (bI true)), some (.int (nI N)), w8, w9, w10, w11, w12] [] (hp S1) ∧ SB S1 (40 + e) us
    | none => runv 62 78 [some (.ref 249), some (.int (nI e)), some (.int (nI b)), some (.int (nI (256 * e + q))), some (.int (nI (256 * e + D.length))), some (.int (nI ts.length)), some (.int (bI true)), some (.int (nI N)), v8, v9, v10, v11, v12] [] (hp S) = runv 62 323 [some (.ref 249), some (.int (nI e)), some (.int (nI b)), v3, some (.int (nI (256 * e + D.length))), some (.int x5), some (.int (bI false)), some (.int (nI N)), w8, w9, w10, w11, w12] [] (hp S1)) := by
  intro n
  induction n with
  | zero =>
    intro q ts S v8 v9 v10 v11 v12 hn hq3 htl hL hE hB hS
    refine ⟨S, some (.int (nI (256 * e + q))), 0, v8, v9, v10, v11, v12, SC.rf, ?_, hS⟩
    rw [s62_78]
    simp only [s62_80, s62_83, s62_84, s62_86, if_bI]
    rw [if_pos trivial, if_pos (nI_le (by omega) (by omega))]
  | succ n ih =>
    intro q ts S v8 v9 v10 v11 v12 hn hq3 htl hL hE hB hS
    unfold apF
    by_cases hq : q < D.length
    · rw [if_pos hq]
      have hx := getD_lt bd q
      have hA := c_apA (b := b) (l := ts.length) (N := N) (v8 := v8) (v9 := v9) (v10 := v10) (v11 := v11) (v12 := v12) he hD bd hL hE hq
      rw [c_apB hD bd hL hB he htl hN hq] at hA
      rw [hA]
      have hc0 : (0 < apC (D.getD q 0)) ↔ ¬ D.getD q 0 % 128 = 0 := by unfold apC; split <;> omega
      -- if the step is refused
      have no : apT B D N q ts.length = false → ∃ (v3 : Option Value) (x5 : Int32) (w8 w9 w10 w11 w12 : Option Value), runv 62 225 [some (.ref 249), some (.int (nI e)), some (.int (nI b)), some (.int (nI (256 * e + q))), some (.int (nI (256 * e + D.length))), some (.int (nI ts.length)), some (.int (bI (apT B D N q ts.length))), some (.int (nI N)), some (.int (nI (D.getD q 0))), some (.int (bI (decide (D.getD q 0 < 128)))), some (.int (nI (apC (D.getD q 0)))), some (.int (nI (apQ D q))), some (.int (nI 0))] [] (hp S) = runv 62 323 [some (.ref 249), some (.int (nI e)), some (.int (nI b)), v3, some (.int (nI (256 * e + D.length))), some (.int x5), some (.int (bI false)), some (.int (nI N)), w8, w9, w10, w11, w12] [] (hp S) := by
        intro hT
        rw [hT]
        have hE := c_apE (S := S) (e := e) (b := b) (q := q) (l := ts.length) (N := N) (v4 := some (.int (nI (256 * e + D.length)))) (v8 := some (.int (nI (D.getD q 0)))) (v11 := some (.int (nI (apQ D q)))) (v12 := some (.int (nI 0))) (g := false) (decide (D.getD q 0 < 128)) (c := apC (D.getD q 0))
        refine ⟨some (.int (nI (256 * e + (if decide (D.getD q 0 < 128) = true then q + 1 + apC (D.getD q 0) else q + 2)))), nI (ts.length + apC (D.getD q 0)), some (.int (nI (D.getD q 0))), some (.int (bI (decide (D.getD q 0 < 128)))), some (.int (nI (apC (D.getD q 0)))), some (.int (nI (apQ D q))), some (.int (nI 0)), ?_⟩
        have s1 : runv 62 225 [some (.ref 249), some (.int (nI e)), some (.int (nI b)), some (.int (nI (256 * e + q))), some (.int (nI (256 * e + D.length))), some (.int (nI ts.length)), some (.int (bI false)), some (.int (nI N)), some (.int (nI (D.getD q 0))), some (.int (bI (decide (D.getD q 0 < 128)))), some (.int (nI (apC (D.getD q 0)))), some (.int (nI (apQ D q))), some (.int (nI 0))] [] (hp S) = runv 62 295 [some (.ref 249), some (.int (nI e)), some (.int (nI b)), some (.int (nI (256 * e + q))), some (.int (nI (256 * e + D.length))), some (.int (nI ts.length)), some (.int (bI false)), some (.int (nI N)), some (.int (nI (D.getD q 0))), some (.int (bI (decide (D.getD q 0 < 128)))), some (.int (nI (apC (D.getD q 0)))), some (.int (nI (apQ D q))), some (.int (nI 0))] [] (hp S) := by
          rw [s62_225]
          simp only [s62_227, s62_229, s62_232, s62_234, if_bI]
          rw [if_neg (show ¬ (false = true) by decide)]
          split <;> rfl
        rw [s1, hE, s62_78]
        simp only [s62_80, if_bI]
        rw [if_neg (show ¬ (false = true) by decide)]
      by_cases c1 : D.getD q 0 % 128 = 0
      · rw [if_pos c1]
        obtain ⟨v3, x5, w8, w9, w10, w11, w12, g⟩ := no (by unfold apT; rw [decide_eq_false (fun z => hc0.mp z c1), Bool.false_and])
        exact ⟨S, v3, x5, w8, w9, w10, w11, w12, SC.rf, g⟩
      · rw [if_neg c1]
        by_cases c3 : D.getD q 0 < 128
        · rw [if_pos c3]
          have ec : apC (D.getD q 0) = D.getD q 0 := by unfold apC; rw [if_pos c3]
          by_cases c4 : q + 1 + D.getD q 0 ≤ D.length ∧ ts.length + D.getD q 0 ≤ N
          · rw [if_pos c4]
            have hT : apT B D N q ts.length = true := by
              unfold apT
              rw [decide_eq_true (hc0.mpr c1), if_pos c3, ec, decide_eq_true c4.2, decide_eq_true (show q + D.getD q 0 < D.length by omega)]
              rfl
            have xl : ((D.drop (q + 1)).take (D.getD q 0)).length = D.getD q 0 := by rw [List.length_take, List.length_drop]; omega
            rw [hT, decide_eq_true c3, ec]
            have hI := c_apI (e := e) (b := b) (kb := kb) (B := B) (D := D) (q := q) (fr := apQ D q) (ts := ts) (X := (D.drop (q + 1)).take (D.getD q 0)) (v4 := some (.int (nI (256 * e + D.length)))) (v7 := some (.int (nI N))) (v8 := some (.int (nI (D.getD q 0)))) true he hb57 hD hne (by omega) (fun _ k hk => by
              rw [xl] at hk
              refine ⟨by omega, ?_⟩
              rw [List.getD_eq_getElem?_getD, List.getElem?_take_of_lt hk, List.getElem?_drop, ← List.getD_eq_getElem?_getD]) (fun z => by cases z) (D.getD q 0) 0 S (by omega) hL hE hB (by rw [List.take_zero, List.append_nil]; exact hS)
            rw [xl] at hI
            obtain ⟨S1, v12', g1, g2, g3⟩ := hI
            have ul : (ts ++ (D.drop (q + 1)).take (D.getD q 0)).length = ts.length + D.getD q 0 := by rw [List.length_append, xl]
            obtain ⟨S2, v3, x5, w8, w9, w10, w11, w12, k1, k2⟩ := ih (q + 1 + D.getD q 0) (ts ++ (D.drop (q + 1)).take (D.getD q 0)) S1 (some (.int (nI (D.getD q 0)))) (some (.int (bI true))) (some (.int (nI (D.getD q 0)))) (some (.int (nI (apQ D q)))) v12' (by omega) (by omega) (by omega) (g3.len hL) (hE.sc g3) (hB.ch g3.1 hne) g2
            refine ⟨S2, v3, x5, w8, w9, w10, w11, w12, g3.tr k1, ?_⟩
            rw [ul] at k2
            rw [g1, c_apE true, if_pos rfl]
            exact k2
          · rw [if_neg c4]
            obtain ⟨v3, x5, w8, w9, w10, w11, w12, g⟩ := no (by
              unfold apT
              rw [if_pos c3, ec]
              by_cases u : ts.length + D.getD q 0 ≤ N
              · rw [decide_eq_false (show ¬ q + D.getD q 0 < D.length from fun z => c4 ⟨by omega, u⟩), Bool.and_false, Bool.and_false]
              · rw [decide_eq_false u, Bool.false_and, Bool.and_false])
            exact ⟨S, v3, x5, w8, w9, w10, w11, w12, SC.rf, g⟩
        · rw [if_neg c3]
          have ec : apC (D.getD q 0) = D.getD q 0 - 128 := by unfold apC; rw [if_neg c3]
          by_cases c4 : q + 1 < D.length ∧ D.getD (q + 1) 0 + (D.getD q 0 - 128) ≤ B.length ∧ ts.length + (D.getD q 0 - 128) ≤ N
          · rw [if_pos c4]
            have eq_ : apQ D q = D.getD (q + 1) 0 := by unfold apQ; rw [if_neg c3, if_pos c4.1]
            have hT : apT B D N q ts.length = true := by
              unfold apT
              rw [decide_eq_true (hc0.mpr c1), if_neg c3, ec, eq_, decide_eq_true c4.2.2, decide_eq_true (show q + 1 < D.length ∧ D.getD (q + 1) 0 + (D.getD q 0 - 128) ≤ B.length from ⟨c4.1, c4.2.1⟩)]
              rfl
            have xl : ((B.drop (D.getD (q + 1) 0)).take (D.getD q 0 - 128)).length = D.getD q 0 - 128 := by rw [List.length_take, List.length_drop]; omega
            rw [hT, decide_eq_false c3, ec, eq_]
            have hI := c_apI (e := e) (b := b) (kb := kb) (B := B) (D := D) (q := q) (fr := D.getD (q + 1) 0) (ts := ts) (X := (B.drop (D.getD (q + 1) 0)).take (D.getD q 0 - 128)) (v4 := some (.int (nI (256 * e + D.length)))) (v7 := some (.int (nI N))) (v8 := some (.int (nI (D.getD q 0)))) false he hb57 hD hne (by omega) (fun z => by cases z) (fun _ k hk => by
              rw [xl] at hk
              refine ⟨by omega, ?_⟩
              rw [List.getD_eq_getElem?_getD, List.getElem?_take_of_lt hk, List.getElem?_drop, ← List.getD_eq_getElem?_getD]) (D.getD q 0 - 128) 0 S (by omega) hL hE hB (by rw [List.take_zero, List.append_nil]; exact hS)
            rw [xl] at hI
            obtain ⟨S1, v12', g1, g2, g3⟩ := hI
            have ul : (ts ++ (B.drop (D.getD (q + 1) 0)).take (D.getD q 0 - 128)).length = ts.length + (D.getD q 0 - 128) := by rw [List.length_append, xl]
            obtain ⟨S2, v3, x5, w8, w9, w10, w11, w12, k1, k2⟩ := ih (q + 2) (ts ++ (B.drop (D.getD (q + 1) 0)).take (D.getD q 0 - 128)) S1 (some (.int (nI (D.getD q 0)))) (some (.int (bI false))) (some (.int (nI (D.getD q 0 - 128)))) (some (.int (nI (D.getD (q + 1) 0)))) v12' (by omega) (by omega) (by omega) (g3.len hL) (hE.sc g3) (hB.ch g3.1 hne) g2
            refine ⟨S2, v3, x5, w8, w9, w10, w11, w12, g3.tr k1, ?_⟩
            rw [ul] at k2
            rw [g1, c_apE false, if_neg (by decide)]
            exact k2
          · rw [if_neg c4]
            obtain ⟨v3, x5, w8, w9, w10, w11, w12, g⟩ := no (by
              unfold apT
              rw [if_neg c3, ec]
              by_cases u : ts.length + (D.getD q 0 - 128) ≤ N
              · rw [decide_eq_false (show ¬ (q + 1 < D.length ∧ apQ D q + (D.getD q 0 - 128) ≤ B.length) from fun z => c4 ⟨z.1, by have := z.2; unfold apQ at this; rw [if_neg c3, if_pos z.1] at this; exact this, u⟩), Bool.and_false, Bool.and_false]
              · rw [decide_eq_false u, Bool.false_and, Bool.and_false])
            exact ⟨S, v3, x5, w8, w9, w10, w11, w12, SC.rf, g⟩
    · rw [if_neg hq]
      refine ⟨S, some (.int (nI (256 * e + q))), 0, v8, v9, v10, v11, v12, SC.rf, ?_, hS⟩
      rw [s62_78]
      simp only [s62_80, s62_83, s62_84, s62_86, if_bI]
      rw [if_pos trivial, if_pos (nI_le (by omega) (by omega))]
theorem c_rapply {S : vSt} (he : e < 16) (hb57 : b < 57) (hD : D.length ≤ 255) (hne : b ≠ 40 + e) (bd : ∀ x ∈ D, x < 256) (hL : RLen S) (hE : EB S e D) (hz : (S.2 263).getD e 0 = nI D.length) (hB : SltIs S b (kb, B)) : ∃ S1, SC (40 + e) S S1 ∧ match apL B D 24 with
    | some us => callv 62 [.ref 249, .int (nI e), .int (nI b)] (hp S) = some (some (.int 1), hp S1) ∧ SltIs S1 (40 + e) (kb, us)
    | none => callv 62 [.ref 249, .int (nI e), .int (nI b)] (hp S) = some (some (.int 0), hp S1) := by
  have l263 : (S.2 263).length = 16 := hL.2.2.2.2.2.2.2.2.2.2.2.2.2.1
  have l265 : (S.2 265).length = 4096 := hL.2.2.2.2.2.2.2.2.2.2.2.2.2.2.2.1
  have hB2 : (S.2 252).getD b 0 = nI kb := hB.2.1
  have hB3 : (S.2 253).getD b 0 = nI B.length := hB.2.2.1
  have hB5 : B.length ≤ 24 := hB.2.2.2.2.1
  -- the end
  have fin : ∀ (T : vSt) (v3 v4 : Option Value) (x d : Int32) (g : Bool) (w8 w9 w10 w11 w12 : Option Value), SC (40 + e) S T → ∃ T1, SC (40 + e) S T1 ∧ runv 62 323 [some (.ref 249), some (.int (nI e)), some (.int (nI b)), v3, v4, some (.int x), some (.int (bI g)), some (.int d), w8, w9, w10, w11, w12] [] (hp T) = some (some (.int (bI (g && decide (x = d)))), hp T1) ∧ T1.2 254 = T.2 254 ∧ (T1.2 252).getD (40 + e) 0 = nI kb ∧ (T1.2 253).getD (40 + e) 0 = x := by
    intro T v3 v4 x d g w8 w9 w10 w11 w12 hF
    have LT := hF.len hL
    have BT := hB.ch hF.1 hne
    have k2 : (T.2 252).getD b 0 = nI kb := BT.2.1
    have l252 : (T.2 252).length = 57 := LT.2.2.1
    have l253 : (T.2 253).length = 57 := LT.2.2.2.1
    have i40 : (40 : Int32) + nI e = nI (40 + e) := nI_add 40 e
    have F1 : SC (40 + e) T _ := SC.kd (S := T) (t := 40 + e) (a := 252) (x := nI kb) (by omega)
    have F2 := F1.tr (SC.kd (t := 40 + e) (a := 253) (x := x) (by omega))
    have e253 : (au T 252 ((T.2 252).set (40 + e) (nI kb))).2 253 = T.2 253 := au_a _ _ (by omega)
    rw [e253] at F2
    have w1 := fun (K2 : vH → Option (Option Value × vH)) => gs (S := T) (i := 40 + e) (x := nI kb) (K2 := K2) (a := 252) rfl l252 (by omega) (by omega)
    have w2 := fun (K2 : vH → Option (Option Value × vH)) => gs (S := au T 252 ((T.2 252).set (40 + e) (nI kb))) (i := 40 + e) (x := x) (K2 := K2) (a := 253) rfl (by rw [e253]; exact l253) (show 40 + e < 57 by omega) (by omega)
    simp only [e253] at w2
    refine ⟨_, hF.tr F2, ?_, ?_, ?_, ?_⟩
    · simp only [s62_323, s62_324, s62_327, s62_329, s62_330, s62_331, s62_332, s62_335, s62_336, s62_337, s62_338, s62_339, s62_342, s62_344, s62_345, s62_346, s62_348, s62_349, s62_351, s62_354, s62_356, s62_358, s62_361, s62_362, s62_365, s62_366, q3, q4, i40, g252 LT hb57, k2, w1, w2, if_bI, vb0, vb1]
      cases g with
      | false => rw [if_neg (by decide)]; rfl
      | true =>
        rw [if_pos rfl]
        by_cases c : x = d
        · rw [if_pos c, decide_eq_true c]; rfl
        · rw [if_neg c, decide_eq_false c]; rfl
    · rw [au_a _ _ (by omega), au_a _ _ (by omega)]
    · rw [au_a _ _ (by omega), au_at, getD_set_self (by omega)]
    · rw [au_at, getD_set_self (by omega)]
  have r0 := fun (K : Value → Option (Option Value × vH)) => ga (S := S) (i := 256 * e) (K := K) (a := 265) rfl l265 (by omega) (by omega)
  have r1 := fun (K : Value → Option (Option Value × vH)) => ga (S := S) (i := 256 * e + 1) (K := K) (a := 265) rfl l265 (by omega) (by omega)
  have rz := fun (K : Value → Option (Option Value × vH)) => ga (S := S) (i := e) (K := K) (a := 263) rfl l263 he (by omega)
  have i256 : (256 : Int32) * nI e = nI (256 * e) := pk_mul 256 e
  have e2 : nI (256 * e) + 2 = nI (256 * e + 2) := nI_add (256 * e) 2
  -- the beginning
  have st : ∃ (g : Bool) (d : Int32), (g = true ↔ 2 ≤ D.length ∧ D.getD 0 0 = B.length ∧ D.getD 1 0 ≤ 24) ∧ (g = true → d = nI (D.getD 1 0)) ∧ callv 62 [.ref 249, .int (nI e), .int (nI b)] (hp S) = runv 62 78 [some (.ref 249), some (.int (nI e)), some (.int (nI b)), some (.int (nI (256 * e + 2))), some (.int (nI (256 * e + D.length))), some (.int (nI 0)), some (.int (bI g)), some (.int d), none, none, none, none, none] [] (hp S) := by
    have mid : ∀ g : Bool, runv 62 62 [some (.ref 249), some (.int (nI e)), some (.int (nI b)), some (.int (nI (256 * e))), some (.int (nI (256 * e + D.length))), some (.int 0), none, none, none, none, none, none, none] [.int (bI g)] (hp S) = runv 62 78 [some (.ref 249), some (.int (nI e)), some (.int (nI b)), some (.int (nI (256 * e + 2))), some (.int (nI (256 * e + D.length))), some (.int (nI 0)), some (.int (bI g)), some (.int ((S.2 265).getD (256 * e + 1) 0)), none, none, none, none, none] [] (hp S) := fun g => by
      simp only [s62_62, s62_64, s62_65, s62_68, s62_69, s62_70, s62_71, s62_72, s62_74, s62_75, s62_76, s62_77, q23, nI_1, r1, e2]
      rfl
    have beg : callv 62 [.ref 249, .int (nI e), .int (nI b)] (hp S) = if nI D.length < 2 then runv 62 61 [some (.ref 249), some (.int (nI e)), some (.int (nI b)), some (.int (nI (256 * e))), some (.int (nI (256 * e + D.length))), some (.int 0), none, none, none, none, none, none, none] [] (hp S) else if (S.2 265).getD (256 * e) 0 = nI B.length then (if (S.2 265).getD (256 * e + 1) 0 ≤ 24 then runv 62 57 [some (.ref 249), some (.int (nI e)), some (.int (nI b)), some (.int (nI (256 * e))), some (.int (nI (256 * e + D.length))), some (.int 0), none, none, none, none, none, none, none] [] (hp S) else runv 62 61 [some (.ref 249), some (.int (nI e)), some (.int (nI b)), some (.int (nI (256 * e))), some (.int (nI (256 * e + D.length))), some (.int 0), none, none, none, none, none, none, none] [] (hp S)) else runv 62 61 [some (.ref 249), some (.int (nI e)), some (.int (nI b)), some (.int (nI (256 * e))), some (.int (nI (256 * e + D.length))), some (.int 0), none, none, none, none, none, none, none] [] (hp S) := by
      show runv 62 0 [some (.ref 249), some (.int (nI e)), some (.int (nI b)), none, none, none, none, none, none, none, none, none, none] [] (hp S) = _
      simp only [s62_0, s62_3, s62_4, s62_5, s62_6, s62_7, s62_8, s62_11, s62_12, s62_13, s62_14, s62_16, s62_17, s62_19, s62_20, s62_23, s62_24, s62_25, s62_26, s62_29, s62_30, s62_33, s62_34, s62_35, s62_36, s62_39, s62_40, s62_41, s62_44, s62_45, s62_48, s62_49, s62_50, s62_51, s62_52, s62_54, q21, q23, q4, i256, rz, hz, nI_add, r0, r1, nI_1, g253 hL hb57, hB3]
      split
      · rfl
      · split
        · split
          · rename_i c1 c2 c3
            rw [if_neg (Int32.not_le.mpr c3)]
          · rename_i c1 c2 c3
            rw [if_pos (Int32.not_lt.mp c3)]
        · rfl
    have f1 : runv 62 57 [some (.ref 249), some (.int (nI e)), some (.int (nI b)), some (.int (nI (256 * e))), some (.int (nI (256 * e + D.length))), some (.int 0), none, none, none, none, none, none, none] [] (hp S) = runv 62 62 [some (.ref 249), some (.int (nI e)), some (.int (nI b)), some (.int (nI (256 * e))), some (.int (nI (256 * e + D.length))), some (.int 0), none, none, none, none, none, none, none] [.int (bI true)] (hp S) := by
      simp only [s62_57, s62_58]
      rfl
    have f0 : runv 62 61 [some (.ref 249), some (.int (nI e)), some (.int (nI b)), some (.int (nI (256 * e))), some (.int (nI (256 * e + D.length))), some (.int 0), none, none, none, none, none, none, none] [] (hp S) = runv 62 62 [some (.ref 249), some (.int (nI e)), some (.int (nI b)), some (.int (nI (256 * e))), some (.int (nI (256 * e + D.length))), some (.int 0), none, none, none, none, none, none, none] [.int (bI false)] (hp S) := by
      simp only [s62_61]
      rfl
    rw [f1, f0, mid, mid] at beg
    by_cases c1 : 2 ≤ D.length
    · rw [if_neg (show ¬ nI D.length < 2 from nI_nlt (b := 2) c1 (by omega))] at beg
      have h0 := hE 0 (by omega)
      have h1 := hE 1 (by omega)
      rw [Nat.add_zero] at h0
      have x0 := getD_lt bd 0
      have x1 := getD_lt bd 1
      rw [h0, h1] at beg
      by_cases c2 : D.getD 0 0 = B.length
      · rw [if_pos (by rw [c2])] at beg
        by_cases c3 : D.getD 1 0 ≤ 24
        · rw [if_pos (show nI (D.getD 1 0) ≤ 24 from nI_le (b := 24) c3 (by omega))] at beg
          exact ⟨true, _, ⟨fun _ => ⟨c1, c2, c3⟩, fun _ => rfl⟩, fun _ => rfl, beg⟩
        · rw [if_neg (show ¬ nI (D.getD 1 0) ≤ 24 from nI_ge (a := 24) (by omega) (by omega))] at beg
          exact ⟨false, _, ⟨fun q => absurd q (by decide), fun q => absurd q.2.2 c3⟩, fun q => absurd q (by decide), beg⟩
      · rw [if_neg (fun q => c2 ((nI_eq (by omega) (by omega)).mp q))] at beg
        exact ⟨false, _, ⟨fun q => absurd q (by decide), fun q => absurd q.2.1 c2⟩, fun q => absurd q (by decide), beg⟩
    · rw [if_pos (show nI D.length < 2 from nI_lt (b := 2) (by omega) (by omega))] at beg
      exact ⟨false, _, ⟨fun q => absurd q (by decide), fun q => absurd q.1 c1⟩, fun q => absurd q (by decide), beg⟩
  obtain ⟨g, d, s1, s2, s3⟩ := st
  rw [← apR_eq]
  unfold apR
  cases g with
  | false =>
    rw [if_neg (fun q => by have := s1.mpr q; cases this)]
    obtain ⟨T1, t1, t2, _⟩ := fin S (some (.int (nI (256 * e + 2)))) (some (.int (nI (256 * e + D.length)))) (nI 0) d false none none none none none SC.rf
    refine ⟨T1, t1, ?_⟩
    rw [s3, s62_78]
    simp only [s62_80, if_bI]
    rw [if_neg (show ¬ (false = true) by decide)]
    exact t2
  | true =>
    have hg := s1.mp rfl
    rw [if_pos hg]
    have hd := s2 rfl
    subst hd
    obtain ⟨S1, v3, x5, w8, w9, w10, w11, w12, k1, k2⟩ := c_ap_loop (N := D.getD 1 0) he hb57 hD hne bd hg.2.2 (D.length + 1) 2 [] S none none none none none (by omega) (by omega) (by simp) hL hE hB (fun j hj => by cases hj)
    rw [show ([] : List Nat).length = 0 from rfl] at k2
    cases ha : apF B D (D.getD 1 0) (D.length + 1) 2 [] with
    | none =>
      rw [ha] at k2
      obtain ⟨T1, t1, t2, _⟩ := fin S1 v3 (some (.int (nI (256 * e + D.length)))) x5 (nI (D.getD 1 0)) false w8 w9 w10 w11 w12 k1
      refine ⟨T1, t1, ?_⟩
      rw [s3]
      exact k2.trans t2
    | some us =>
      rw [ha] at k2
      obtain ⟨k2, k3⟩ := k2
      have ul := apF_le _ _ _ _ (by simp) ha
      obtain ⟨T1, t1, t2, t3, t4, t5⟩ := fin S1 v3 (some (.int (nI (256 * e + D.length)))) (nI us.length) (nI (D.getD 1 0)) true w8 w9 w10 w11 w12 k1
      simp only
      have kk : decide (nI us.length = nI (D.getD 1 0)) = decide (us.length = D.getD 1 0) := decide_eq_decide.mpr (nI_eq (by omega) (by omega))
      rw [kk, Bool.true_and] at t2
      refine ⟨T1, t1, ?_⟩
      by_cases c : us.length = D.getD 1 0
      · rw [if_pos c]
        rw [decide_eq_true c] at t2
        have ub := apF_ok (N := D.getD 1 0) hB.2.2.2.2.2.1 bd _ _ _ _ (fun x hx => by cases hx) ha
        refine ⟨by rw [s3]; exact k2.trans t2, ⟨by omega, t4, t5, fun j hj => by rw [t3]; exact k3 j hj, by show us.length ≤ 24; omega, ub, hB.2.2.2.2.2.2.1, hB.2.2.2.2.2.2.2⟩⟩
      · rw [if_neg c]
        rw [decide_eq_false c] at t2
        rw [s3]
        exact k2.trans t2
end REF28
