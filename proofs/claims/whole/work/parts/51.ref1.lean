/-! the reference: cells, slots, IDs -/
theorem sk_m : sk[249]? = some (9, [some 250, none, some 251, some 252, some 253, some 254, some 255, none, some 256, some 257, none, none, some 258, none, some 259, some 260, none, some 261, none, none, some 262, some 263, some 264, some 265, some 266]) := rfl
/-- the rooms of the reference's arrays -/
def RLen (S : vSt) : Prop := (S.2 250).length = 640 ∧ (S.2 251).length = 2 ∧ (S.2 252).length = 57 ∧ (S.2 253).length = 57 ∧ (S.2 254).length = 1368 ∧ (S.2 255).length = 40 ∧ (S.2 256).length = 4 ∧ (S.2 257).length = 16 ∧ (S.2 258).length = 8 ∧ (S.2 259).length = 16 ∧ (S.2 260).length = 16 ∧ (S.2 261).length = 256 ∧ (S.2 262).length = 16 ∧ (S.2 263).length = 16 ∧ (S.2 264).length = 16 ∧ (S.2 265).length = 4096 ∧ (S.2 266).length = 16
theorem RLen.keep {mi : Nat} {as : List Value} {v : Option Value} {S S1 : vSt} (h : RLen S) (hc : callv mi as (hp S) = some (v, hp S1)) : RLen S1 := by
  obtain ⟨h0, h1, h2, h3, h4, h5, h6, h7, h8, h9, h10, h11, h12, h13, h14, h15, h16⟩ := h
  exact ⟨by rw [len_keep hc rfl, h0], by rw [len_keep hc rfl, h1], by rw [len_keep hc rfl, h2], by rw [len_keep hc rfl, h3], by rw [len_keep hc rfl, h4], by rw [len_keepB hc rfl, h5], by rw [len_keep hc rfl, h6], by rw [len_keepB hc rfl, h7], by rw [len_keep hc rfl, h8], by rw [len_keep hc rfl, h9], by rw [len_keep hc rfl, h10], by rw [len_keep hc rfl, h11], by rw [len_keep hc rfl, h12], by rw [len_keep hc rfl, h13], by rw [len_keep hc rfl, h14], by rw [len_keep hc rfl, h15], by rw [len_keepB hc rfl, h16]⟩
section REF0
variable {S : vSt} {i : Nat} {x : Int32} {K : Value → Option (Option Value × vH)} {K2 : vH → Option (Option Value × vH)}
theorem q0 : vgf (hp S) 249 9 0 K = K (.ref 250) := vgf_ref sk_m rfl rfl
theorem q1 : vgf (hp S) 249 9 1 K = K (.int (S.1 249 1)) := vgf_int sk_m rfl rfl
theorem q2 : vgf (hp S) 249 9 2 K = K (.ref 251) := vgf_ref sk_m rfl rfl
theorem q3 : vgf (hp S) 249 9 3 K = K (.ref 252) := vgf_ref sk_m rfl rfl
theorem q4 : vgf (hp S) 249 9 4 K = K (.ref 253) := vgf_ref sk_m rfl rfl
theorem q5 : vgf (hp S) 249 9 5 K = K (.ref 254) := vgf_ref sk_m rfl rfl
theorem q6 : vgf (hp S) 249 9 6 K = K (.ref 255) := vgf_ref sk_m rfl rfl
theorem q7 : vgf (hp S) 249 9 7 K = K (.int (S.1 249 7)) := vgf_int sk_m rfl rfl
theorem q8 : vgf (hp S) 249 9 8 K = K (.ref 256) := vgf_ref sk_m rfl rfl
theorem q9 : vgf (hp S) 249 9 9 K = K (.ref 257) := vgf_ref sk_m rfl rfl
theorem q10 : vgf (hp S) 249 9 10 K = K (.int (S.1 249 10)) := vgf_int sk_m rfl rfl
theorem q11 : vgf (hp S) 249 9 11 K = K (.int (S.1 249 11)) := vgf_int sk_m rfl rfl
theorem q12 : vgf (hp S) 249 9 12 K = K (.ref 258) := vgf_ref sk_m rfl rfl
theorem q13 : vgf (hp S) 249 9 13 K = K (.int (S.1 249 13)) := vgf_int sk_m rfl rfl
theorem q14 : vgf (hp S) 249 9 14 K = K (.ref 259) := vgf_ref sk_m rfl rfl
theorem q15 : vgf (hp S) 249 9 15 K = K (.ref 260) := vgf_ref sk_m rfl rfl
theorem q16 : vgf (hp S) 249 9 16 K = K (.int (S.1 249 16)) := vgf_int sk_m rfl rfl
theorem q17 : vgf (hp S) 249 9 17 K = K (.ref 261) := vgf_ref sk_m rfl rfl
theorem q18 : vgf (hp S) 249 9 18 K = K (.int (S.1 249 18)) := vgf_int sk_m rfl rfl
theorem q19 : vgf (hp S) 249 9 19 K = K (.int (S.1 249 19)) := vgf_int sk_m rfl rfl
theorem q20 : vgf (hp S) 249 9 20 K = K (.ref 262) := vgf_ref sk_m rfl rfl
theorem q21 : vgf (hp S) 249 9 21 K = K (.ref 263) := vgf_ref sk_m rfl rfl
theorem q22 : vgf (hp S) 249 9 22 K = K (.ref 264) := vgf_ref sk_m rfl rfl
theorem q23 : vgf (hp S) 249 9 23 K = K (.ref 265) := vgf_ref sk_m rfl rfl
theorem q24 : vgf (hp S) 249 9 24 K = K (.ref 266) := vgf_ref sk_m rfl rfl
theorem q1p : vpf (hp S) 249 9 1 (.int x) K2 = K2 (hp (fu S 249 1 x)) := vpf_int sk_m rfl rfl (vfit_int rfl)
theorem q7p {b : Bool} : vpf (hp S) 249 9 7 (.int (bI b)) K2 = K2 (hp (fu S 249 7 (bI b))) := vpf_int sk_m rfl rfl (vfit_bool rfl)
theorem q10p {b : Bool} : vpf (hp S) 249 9 10 (.int (bI b)) K2 = K2 (hp (fu S 249 10 (bI b))) := vpf_int sk_m rfl rfl (vfit_bool rfl)
theorem q11p : vpf (hp S) 249 9 11 (.int x) K2 = K2 (hp (fu S 249 11 x)) := vpf_int sk_m rfl rfl (vfit_int rfl)
theorem q13p : vpf (hp S) 249 9 13 (.int x) K2 = K2 (hp (fu S 249 13 x)) := vpf_int sk_m rfl rfl (vfit_int rfl)
theorem q16p : vpf (hp S) 249 9 16 (.int x) K2 = K2 (hp (fu S 249 16 x)) := vpf_int sk_m rfl rfl (vfit_int rfl)
theorem q18p : vpf (hp S) 249 9 18 (.int x) K2 = K2 (hp (fu S 249 18 x)) := vpf_int sk_m rfl rfl (vfit_int rfl)
theorem q19p : vpf (hp S) 249 9 19 (.int x) K2 = K2 (hp (fu S 249 19 x)) := vpf_int sk_m rfl rfl (vfit_int rfl)
theorem qt : vtag (hp S) 249 = 9 := vtag_hp sk_m
/-- reading and writing an array of known room -/
theorem ga {a N : Nat} (h : sk[a]? = some (100, [])) (hl : (S.2 a).length = N) (hi : i < N) (hN : N ≤ 10000) : vld2 (hp S) a (fun t => t == 100 || t == 104) (nI i) K = K (.int ((S.2 a).getD i 0)) := arg h (by omega) (by omega)
theorem gs {a N : Nat} (h : sk[a]? = some (100, [])) (hl : (S.2 a).length = N) (hi : i < N) (hN : N ≤ 10000) : vst2 (hp S) a 100 (nI i) (.int x) K2 = K2 (hp (au S a ((S.2 a).set i x))) := arst h (by omega) (by omega)
theorem gb {a N : Nat} (h : sk[a]? = some (101, [])) (hl : (S.2 a).length = N) (hi : i < N) (hN : N ≤ 10000) : vld2 (hp S) a (fun t => t == 101) (nI i) K = K (.int ((S.2 a).getD i 0)) := bag h (by omega) (by omega)
theorem gbs {a N : Nat} (h : sk[a]? = some (101, [])) (hl : (S.2 a).length = N) (hi : i < N) (hN : N ≤ 10000) : vst2 (hp S) a 101 (nI i) (.int x) K2 = K2 (hp (au S a ((S.2 a).set i x))) := bast h (by omega) (by omega)
theorem g252 (h : RLen S) (hi : i < 57) : vld2 (hp S) 252 (fun t => t == 100 || t == 104) (nI i) K = K (.int ((S.2 252).getD i 0)) := ga rfl h.2.2.1 hi (by omega)
theorem g253 (h : RLen S) (hi : i < 57) : vld2 (hp S) 253 (fun t => t == 100 || t == 104) (nI i) K = K (.int ((S.2 253).getD i 0)) := ga rfl h.2.2.2.1 hi (by omega)
theorem g254 (h : RLen S) (hi : i < 1368) : vld2 (hp S) 254 (fun t => t == 100 || t == 104) (nI i) K = K (.int ((S.2 254).getD i 0)) := ga rfl h.2.2.2.2.1 hi (by omega)
theorem g251 (h : RLen S) (hi : i < 2) : vld2 (hp S) 251 (fun t => t == 100 || t == 104) (nI i) K = K (.int ((S.2 251).getD i 0)) := ga rfl h.2.1 hi (by omega)
theorem g250 (h : RLen S) (hi : i < 640) : vld2 (hp S) 250 (fun t => t == 100 || t == 104) (nI i) K = K (.int ((S.2 250).getD i 0)) := ga rfl h.1 hi (by omega)
end REF0
theorem x24 (i : Nat) : (24 : Int32) * nI i = nI (24 * i) := pk_mul 24 i
theorem c_in {h : vH} (x a b : Int32) : callv 24 [.int x, .int a, .int b] h = some (some (.int (bI (decide (a ≤ x ∧ x ≤ b)))), h) := by
  show runv 24 0 [some (.int x), some (.int a), some (.int b)] [] h = _
  simp only [s24_0, s24_1, s24_2, s24_5, s24_6, s24_7, s24_10, s24_11, s24_14, s24_15, vb0, vb1]
  by_cases h1 : x < a
  · rw [if_pos h1, decide_eq_false (fun q => Int32.not_le.mpr h1 q.1)]
    rfl
  · rw [if_neg h1]
    by_cases h2 : b < x
    · rw [if_pos h2, decide_eq_false (fun q => Int32.not_le.mpr h2 q.2)]
      rfl
    · rw [if_neg h2, decide_eq_true ⟨Int32.not_lt.mp h1, Int32.not_lt.mp h2⟩]
      rfl
theorem c_fold {h : vH} {g x : Nat} (hg : g < 65521) (hx : x < 65536) : callv 25 [.int (nI g), .int (nI x)] h = some (some (.int (nI (hst g x))), h) := by
  show runv 25 0 [some (.int (nI g)), some (.int (nI x))] [] h = _
  have e0 : ¬ (65521 : Int32) = 0 := by decide
  simp only [s25_0, s25_1, s25_4, s25_5, s25_6, s25_7, s25_9, s25_10, e0, not_false_eq_true]
  have e1 : nI g * 257 + nI x = nI (g * 257 + x) := by rw [show (257 : Int32) = nI 257 from rfl, pk_mul, nI_add]
  rw [e1, show (65521 : Int32) = nI 65521 from rfl, pk_rem (by omega) (by omega) (by omega)]
  rfl
/-- an object lies in a slot -/
def SltIs (S : vSt) (i : Nat) (o : Obj) : Prop := i < 57 ∧ (S.2 252).getD i 0 = nI o.1 ∧ (S.2 253).getD i 0 = nI o.2.length ∧ (∀ j, j < o.2.length → (S.2 254).getD (24 * i + j) 0 = nI (o.2.getD j 0)) ∧ o.2.length ≤ 24 ∧ (∀ x ∈ o.2, x < 256) ∧ 1 ≤ o.1 ∧ o.1 ≤ 3
theorem SltIs.of {S S1 : vSt} {i : Nat} {o : Obj} (h : SltIs S i o) (e2 : S1.2 252 = S.2 252) (e3 : S1.2 253 = S.2 253) (e4 : S1.2 254 = S.2 254) : SltIs S1 i o := by
  obtain ⟨h1, h2, h3, h4, h5⟩ := h
  exact ⟨h1, by rw [e2, h2], by rw [e3, h3], fun j hj => by rw [e4, h4 j hj], h5⟩
section REF1
variable {S : vSt} {i : Nat} {o : Obj}
theorem c_idOf_loop (hL : RLen S) (h : SltIs S i o) : ∀ k j g, j + k = o.2.length → g < 65521 → runv 31 25 [some (.ref 249), some (.int (nI i)), some (.int (nI g)), some (.int (nI j))] [] (hp S) = some (some (.int (nI (hashN g (o.2.drop j)))), hp S) := by
  obtain ⟨h1, h2, h3, h4, h5, h6, h7, h8⟩ := h
  intro k
  induction k with
  | zero =>
    intro j g hj hg
    rw [s31_25]
    simp only [s31_0, s31_2, s31_3, s31_6, s31_7, s31_8, s31_11, s31_12, s31_13, s31_14, s31_17, s31_18, s31_19, s31_22, s31_23, s31_24, s31_26, s31_27, s31_30, s31_31, s31_32, s31_35, s31_36, s31_37, s31_40, s31_42, s31_43, s31_44, s31_45, s31_46, s31_47, s31_50, s31_51, s31_54, s31_57, s31_58, q4, g253 hL h1, h3]
    rw [if_pos (nI_le (by omega) (by omega)), List.drop_of_length_le (by omega)]
    rfl
  | succ k ih =>
    intro j g hj hg
    have hjl : j < o.2.length := by omega
    have hx := getD_lt h6 j
    rw [s31_25]
    simp only [s31_0, s31_2, s31_3, s31_6, s31_7, s31_8, s31_11, s31_12, s31_13, s31_14, s31_17, s31_18, s31_19, s31_22, s31_23, s31_24, s31_26, s31_27, s31_30, s31_31, s31_32, s31_35, s31_36, s31_37, s31_40, s31_42, s31_43, s31_44, s31_45, s31_46, s31_47, s31_50, s31_51, s31_54, s31_57, s31_58, q4, q5, g253 hL h1, h3, x24, nI_add, g254 hL (show 24 * i + j < 1368 by omega), h4 j hjl, List.length_cons, List.length_nil, Nat.reduceAdd, Nat.reduceLeDiff, Nat.zero_le, c_fold hg (show o.2.getD j 0 < 65536 by omega), vbind_some, vpush_some, nI_1]
    rw [if_neg (nI_ge (by omega) (by omega)), ih (j + 1) _ (by omega) (hst_lt _ _), drop_cons hjl]
    rfl
theorem c_idOf (hL : RLen S) (h : SltIs S i o) : callv 31 [.ref 249, .int (nI i)] (hp S) = some (some (.int (nI (oid o.1 o.2))), hp S) := by
  have hl := c_idOf_loop hL h o.2.length 0 (hst (hst 7 o.1) o.2.length) (by omega) (hst_lt _ _)
  rw [List.drop_zero] at hl
  obtain ⟨h1, h2, h3, h4, h5, h6, h7, h8⟩ := h
  have e1 := c_fold (h := hp S) (g := 7) (x := o.1) (by omega) (by omega)
  have e2 := c_fold (h := hp S) (g := hst 7 o.1) (x := o.2.length) (hst_lt _ _) (by omega)
  show runv 31 0 [some (.ref 249), some (.int (nI i)), none, none] [] (hp S) = _
  simp only [s31_0, s31_2, s31_3, s31_6, s31_7, s31_8, s31_11, s31_12, s31_13, s31_14, s31_17, s31_18, s31_19, s31_22, s31_23, s31_24, s31_26, s31_27, s31_30, s31_31, s31_32, s31_35, s31_36, s31_37, s31_40, s31_42, s31_43, s31_44, s31_45, s31_46, s31_47, s31_50, s31_51, s31_54, s31_57, s31_58, q3, q4, g252 hL h1, g253 hL h1, h2, h3, List.length_cons, List.length_nil, Nat.reduceAdd, Nat.reduceLeDiff, Nat.zero_le, show (7 : Int32) = nI 7 from rfl, e1, e2, vbind_some, vpush_some]
  exact hl
end REF1
