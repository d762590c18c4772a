/-! the law, run -/
theorem sk_0 : sk[0]? = some (104, []) := rfl
theorem tag1 {S : vSt} : vtag (hp S) 1 = 0 := vtag_hp (show sk[1]? = some (0, _) from rfl)
section LAW
variable {xs : List Int32}
theorem scr_len {S : vSt} {K : Value → Option (Option Value × vH)} (h : S.2 0 = xs) : vlen2 (hp S) 0 K = K (.int (nI xs.length)) := by
  rw [vlen2_int sk_0 rfl, h]
  rfl
theorem scr_get {S : vSt} {i : Nat} {K : Value → Option (Option Value × vH)} (h : S.2 0 = xs) (hi : i < xs.length) (hl : xs.length ≤ 2048) : vld2 (hp S) 0 (fun t => t == 100 || t == 104) (nI i) K = K (.int (xs.getD i 0)) := by
  rw [vld2_int sk_0 rfl rfl (nI_pos (by omega)) (by rw [nI_clamp (by omega), h]; exact hi), nI_clamp (by omega), h]
theorem c_law (hl : xs.length ≤ 2048) : ∀ n i S (m : Mst), xs.length < i + 4 * n → i ≤ 4096 → S.2 0 = xs → Both S m → ∃ S1, runv 166 18 [some (.ref 0), some (.ref 1), some (.ref 249), some (.int (nI i))] [] (hp S) = some (some (.int 1), hp S1) := by
  have e2 : ∀ x : Nat, nI x + 2 = nI (x + 2) := fun x => nI_add x 2
  have e3 : ∀ x : Nat, nI x + 3 = nI (x + 3) := fun x => nI_add x 3
  have e4 : ∀ x : Nat, nI x + 4 = nI (x + 4) := fun x => nI_add x 4
  have stop : ∀ i S, S.2 0 = xs → i ≤ 4096 → ¬ i + 4 ≤ xs.length → runv 166 18 [some (.ref 0), some (.ref 1), some (.ref 249), some (.int (nI i))] [] (hp S) = some (some (.int 1), hp S) := by
    intro i S h0 hi hc
    rw [s166_18]
    simp only [s166_19, s166_20, s166_21, s166_22, s166_23, s166_580, s166_581, scr_len h0, vb1]
    have hlt : nI xs.length - 4 < nI i := by
      by_cases c : 4 ≤ xs.length
      · rw [show nI xs.length - 4 = nI (xs.length - 4) from pk_sub (b := 4) c]
        exact nI_lt (by omega) (by omega)
      · exact Int32.lt_of_lt_of_le (pk_sneg (b := 4) (by omega) (by omega)) (nI_pos' (by omega))
    rw [if_pos hlt]
  intro n
  induction n with
  | zero =>
    intro i S m hn hi h0 hB
    exact ⟨S, stop i S h0 hi (by omega)⟩
  | succ n ih =>
    intro i S m hn hi h0 hB
    by_cases hc : i + 4 ≤ xs.length
    · obtain ⟨bs, os, cs, rf, wn, hv⟩ := m
      obtain ⟨j, hj, hjx⟩ := pk_andE (xs.getD i 0) (m := 31) 5 (by decide)
      have hnl : ¬ nI xs.length - 4 < nI i := by
        rw [show nI xs.length - 4 = nI (xs.length - 4) from pk_sub (b := 4) (by omega)]
        exact nI_nlt (by omega) (by omega)
      have hd : runv 166 18 [some (.ref 0), some (.ref 1), some (.ref 249), some (.int (nI i))] [] (hp S) = runv 166 32 [some (.ref 0), some (.ref 1), some (.ref 249), some (.int (nI i))] [.int (nI j)] (hp S) := by
        rw [s166_18]
        simp only [s166_19, s166_20, s166_21, s166_22, s166_23, s166_26, s166_27, s166_28, s166_29, s166_31, scr_len h0, scr_get h0 (show i < xs.length by omega) hl, hjx]
        rw [if_neg hnl]
      have nx : ∀ S2 (m2 : Mst), S2.2 0 = xs → Both S2 m2 → ∃ S3, runv 166 574 [some (.ref 0), some (.ref 1), some (.ref 249), some (.int (nI i))] [] (hp S2) = some (some (.int 1), hp S3) := by
        intro S2 m2 g0 gB
        obtain ⟨S3, g⟩ := ih (i + 4) S2 m2 (by omega) (by omega) g0 gB
        refine ⟨S3, ?_⟩
        rw [← g]
        simp only [s166_574, s166_577, e4]
      have g1 : ∀ (T : vSt) (K : Value → Option (Option Value × vH)), T.2 0 = xs → vld2 (hp T) 0 (fun t => t == 100 || t == 104) (nI (i + 1)) K = K (.int (xs.getD (i + 1) 0)) := fun T K hT => scr_get hT (by omega) hl
      have g2 : ∀ (T : vSt) (K : Value → Option (Option Value × vH)), T.2 0 = xs → vld2 (hp T) 0 (fun t => t == 100 || t == 104) (nI (i + 2)) K = K (.int (xs.getD (i + 2) 0)) := fun T K hT => scr_get hT (by omega) hl
      have g3 : ∀ (T : vSt) (K : Value → Option (Option Value × vH)), T.2 0 = xs → vld2 (hp T) 0 (fun t => t == 100 || t == 104) (nI (i + 3)) K = K (.int (xs.getD (i + 3) 0)) := fun T K hT => scr_get hT (by omega) hl
      rw [hd]
      have cases_ : j = 0 ∨ j = 1 ∨ j = 2 ∨ j = 3 ∨ j = 4 ∨ j = 5 ∨ j = 6 ∨ j = 7 ∨ j = 8 ∨ j = 9 ∨ j = 10 ∨ j = 11 ∨ j = 12 ∨ j = 13 ∨ j = 14 ∨ j = 15 ∨ j = 16 ∨ j = 17 ∨ 18 ≤ j := by omega
      rcases cases_ with q | q | q | q | q | q | q | q | q | q | q | q | q | q | q | q | q | q | q
      · subst q
        obtain ⟨v, S1, S2, m2, c1, c2, gB, g0⟩ := p_put hB (xs.getD (i + 1) 0) (xs.getD (i + 2) 0)
        have z1 : S1.2 0 = xs := (scr_keep c1).trans h0
        obtain ⟨S3, g⟩ := nx S2 m2 (g0.trans h0) gB
        refine ⟨S3, ?_⟩
        rw [show nI 0 = (0 : Int32) from rfl, s166_32_0, ← g]
        simp only [s166_120, s166_121, s166_122, s166_123, s166_124, s166_125, s166_126, s166_127, s166_128, s166_129, s166_130, s166_131, s166_134, s166_135, s166_136, s166_137, s166_138, s166_139, s166_140, s166_141, s166_142, s166_143, s166_144, s166_145, s166_148, nI_1, e2, e3, g1 S _ h0, g1 S1 _ z1, g2 S _ h0, g2 S1 _ z1, List.length_cons, List.length_nil, Nat.reduceAdd, Nat.reduceLeDiff, Nat.zero_le, tag1, qt, c1, c2, vbind_some, vpush_some]
        rw [if_pos trivial]
      · subst q
        obtain ⟨v, S1, S2, m2, c1, c2, gB, g0⟩ := p_set hB (xs.getD (i + 1) 0) (xs.getD (i + 2) 0)
        have z1 : S1.2 0 = xs := (scr_keep c1).trans h0
        obtain ⟨S3, g⟩ := nx S2 m2 (g0.trans h0) gB
        refine ⟨S3, ?_⟩
        rw [show nI 1 = (1 : Int32) from rfl, s166_32_1, ← g]
        simp only [s166_153, s166_154, s166_155, s166_156, s166_157, s166_158, s166_159, s166_160, s166_161, s166_162, s166_163, s166_164, s166_167, s166_168, s166_169, s166_170, s166_171, s166_172, s166_173, s166_174, s166_175, s166_176, s166_177, s166_178, s166_181, nI_1, e2, e3, g1 S _ h0, g1 S1 _ z1, g2 S _ h0, g2 S1 _ z1, List.length_cons, List.length_nil, Nat.reduceAdd, Nat.reduceLeDiff, Nat.zero_le, tag1, qt, c1, c2, vbind_some, vpush_some]
        rw [if_pos trivial]
      · subst q
        obtain ⟨v, S1, S2, m2, c1, c2, gB, g0⟩ := p_cut hB (xs.getD (i + 1) 0)
        have z1 : S1.2 0 = xs := (scr_keep c1).trans h0
        obtain ⟨S3, g⟩ := nx S2 m2 (g0.trans h0) gB
        refine ⟨S3, ?_⟩
        rw [show nI 2 = (2 : Int32) from rfl, s166_32_2, ← g]
        simp only [s166_186, s166_187, s166_188, s166_189, s166_190, s166_191, s166_192, s166_195, s166_196, s166_197, s166_198, s166_199, s166_200, s166_201, s166_204, nI_1, e2, e3, g1 S _ h0, g1 S1 _ z1, List.length_cons, List.length_nil, Nat.reduceAdd, Nat.reduceLeDiff, Nat.zero_le, tag1, qt, c1, c2, vbind_some, vpush_some]
        rw [if_pos trivial]
      · subst q
        obtain ⟨v, S1, S2, m2, c1, c2, gB, g0⟩ := p_size hB
        have z1 : S1.2 0 = xs := (scr_keep c1).trans h0
        obtain ⟨S3, g⟩ := nx S2 m2 (g0.trans h0) gB
        refine ⟨S3, ?_⟩
        rw [show nI 3 = (3 : Int32) from rfl, s166_32_3, ← g]
        simp only [s166_209, s166_210, s166_213, s166_214, s166_217, nI_1, e2, e3, List.length_cons, List.length_nil, Nat.reduceAdd, Nat.reduceLeDiff, Nat.zero_le, tag1, qt, c1, c2, vbind_some, vpush_some]
        rw [if_pos trivial]
      · subst q
        obtain ⟨v, S1, S2, m2, c1, c2, gB, g0⟩ := p_at hB (xs.getD (i + 1) 0)
        have z1 : S1.2 0 = xs := (scr_keep c1).trans h0
        obtain ⟨S3, g⟩ := nx S2 m2 (g0.trans h0) gB
        refine ⟨S3, ?_⟩
        rw [show nI 4 = (4 : Int32) from rfl, s166_32_4, ← g]
        simp only [s166_222, s166_223, s166_224, s166_225, s166_226, s166_227, s166_228, s166_231, s166_232, s166_233, s166_234, s166_235, s166_236, s166_237, s166_240, nI_1, e2, e3, g1 S _ h0, g1 S1 _ z1, List.length_cons, List.length_nil, Nat.reduceAdd, Nat.reduceLeDiff, Nat.zero_le, tag1, qt, c1, c2, vbind_some, vpush_some]
        rw [if_pos trivial]
      · subst q
        obtain ⟨v, S1, S2, m2, c1, c2, gB, g0⟩ := p_store hB (xs.getD (i + 1) 0)
        have z1 : S1.2 0 = xs := (scr_keep c1).trans h0
        obtain ⟨S3, g⟩ := nx S2 m2 (g0.trans h0) gB
        refine ⟨S3, ?_⟩
        rw [show nI 5 = (5 : Int32) from rfl, s166_32_5, ← g]
        simp only [s166_245, s166_246, s166_247, s166_248, s166_249, s166_250, s166_251, s166_254, s166_255, s166_256, s166_257, s166_258, s166_259, s166_260, s166_263, nI_1, e2, e3, g1 S _ h0, g1 S1 _ z1, List.length_cons, List.length_nil, Nat.reduceAdd, Nat.reduceLeDiff, Nat.zero_le, tag1, qt, c1, c2, vbind_some, vpush_some]
        rw [if_pos trivial]
      · subst q
        obtain ⟨v, S1, S2, m2, c1, c2, gB, g0⟩ := p_point hB (xs.getD (i + 1) 0) (xs.getD (i + 2) 0)
        have z1 : S1.2 0 = xs := (scr_keep c1).trans h0
        obtain ⟨S3, g⟩ := nx S2 m2 (g0.trans h0) gB
        refine ⟨S3, ?_⟩
        rw [show nI 6 = (6 : Int32) from rfl, s166_32_6, ← g]
        simp only [s166_268, s166_269, s166_270, s166_271, s166_272, s166_273, s166_274, s166_275, s166_276, s166_277, s166_278, s166_279, s166_282, s166_283, s166_284, s166_285, s166_286, s166_287, s166_288, s166_289, s166_290, s166_291, s166_292, s166_293, s166_296, nI_1, e2, e3, g1 S _ h0, g1 S1 _ z1, g2 S _ h0, g2 S1 _ z1, List.length_cons, List.length_nil, Nat.reduceAdd, Nat.reduceLeDiff, Nat.zero_le, tag1, qt, c1, c2, vbind_some, vpush_some]
        rw [if_pos trivial]
      · subst q
        obtain ⟨v, S1, S2, m2, c1, c2, gB, g0⟩ := p_ref hB (xs.getD (i + 1) 0)
        have z1 : S1.2 0 = xs := (scr_keep c1).trans h0
        obtain ⟨S3, g⟩ := nx S2 m2 (g0.trans h0) gB
        refine ⟨S3, ?_⟩
        rw [show nI 7 = (7 : Int32) from rfl, s166_32_7, ← g]
        simp only [s166_301, s166_302, s166_303, s166_304, s166_305, s166_306, s166_307, s166_310, s166_311, s166_312, s166_313, s166_314, s166_315, s166_316, s166_319, nI_1, e2, e3, g1 S _ h0, g1 S1 _ z1, List.length_cons, List.length_nil, Nat.reduceAdd, Nat.reduceLeDiff, Nat.zero_le, tag1, qt, c1, c2, vbind_some, vpush_some]
        rw [if_pos trivial]
      · subst q
        obtain ⟨v, S1, S2, m2, c1, c2, gB, g0⟩ := p_want hB (xs.getD (i + 1) 0)
        have z1 : S1.2 0 = xs := (scr_keep c1).trans h0
        obtain ⟨S3, g⟩ := nx S2 m2 (g0.trans h0) gB
        refine ⟨S3, ?_⟩
        rw [show nI 8 = (8 : Int32) from rfl, s166_32_8, ← g]
        simp only [s166_324, s166_325, s166_326, s166_327, s166_328, s166_329, s166_330, s166_333, s166_334, s166_335, s166_336, s166_337, s166_338, s166_339, s166_342, nI_1, e2, e3, g1 S _ h0, g1 S1 _ z1, List.length_cons, List.length_nil, Nat.reduceAdd, Nat.reduceLeDiff, Nat.zero_le, tag1, qt, c1, c2, vbind_some, vpush_some]
        rw [if_pos trivial]
      · subst q
        obtain ⟨v, S1, S2, m2, c1, c2, gB, g0⟩ := p_have hB (xs.getD (i + 1) 0)
        have z1 : S1.2 0 = xs := (scr_keep c1).trans h0
        obtain ⟨S3, g⟩ := nx S2 m2 (g0.trans h0) gB
        refine ⟨S3, ?_⟩
        rw [show nI 9 = (9 : Int32) from rfl, s166_32_9, ← g]
        simp only [s166_347, s166_348, s166_349, s166_350, s166_351, s166_352, s166_353, s166_356, s166_357, s166_358, s166_359, s166_360, s166_361, s166_362, s166_365, nI_1, e2, e3, g1 S _ h0, g1 S1 _ z1, List.length_cons, List.length_nil, Nat.reduceAdd, Nat.reduceLeDiff, Nat.zero_le, tag1, qt, c1, c2, vbind_some, vpush_some]
        rw [if_pos trivial]
      · subst q
        obtain ⟨v, S1, S2, m2, c1, c2, gB, g0⟩ := p_serve hB
        have z1 : S1.2 0 = xs := (scr_keep c1).trans h0
        obtain ⟨S3, g⟩ := nx S2 m2 (g0.trans h0) gB
        refine ⟨S3, ?_⟩
        rw [show nI 10 = (10 : Int32) from rfl, s166_32_10, ← g]
        simp only [s166_370, s166_371, s166_374, s166_375, s166_378, nI_1, e2, e3, List.length_cons, List.length_nil, Nat.reduceAdd, Nat.reduceLeDiff, Nat.zero_le, tag1, qt, c1, c2, vbind_some, vpush_some]
        rw [if_pos trivial]
      · subst q
        obtain ⟨v, S1, S2, m2, c1, c2, gB, g0⟩ := p_receive hB
        have z1 : S1.2 0 = xs := (scr_keep c1).trans h0
        obtain ⟨S3, g⟩ := nx S2 m2 (g0.trans h0) gB
        refine ⟨S3, ?_⟩
        rw [show nI 11 = (11 : Int32) from rfl, s166_32_11, ← g]
        simp only [s166_383, s166_384, s166_387, s166_388, s166_391, nI_1, e2, e3, List.length_cons, List.length_nil, Nat.reduceAdd, Nat.reduceLeDiff, Nat.zero_le, tag1, qt, c1, c2, vbind_some, vpush_some]
        rw [if_pos trivial]
      · subst q
        obtain ⟨v, S1, S2, m2, c1, c2, gB, g0⟩ := p_forget hB
        have z1 : S1.2 0 = xs := (scr_keep c1).trans h0
        obtain ⟨S3, g⟩ := nx S2 m2 (g0.trans h0) gB
        refine ⟨S3, ?_⟩
        rw [show nI 12 = (12 : Int32) from rfl, s166_32_12, ← g]
        simp only [s166_396, s166_397, s166_400, s166_401, s166_404, nI_1, e2, e3, List.length_cons, List.length_nil, Nat.reduceAdd, Nat.reduceLeDiff, Nat.zero_le, tag1, qt, c1, c2, vbind_some, vpush_some]
        rw [if_pos trivial]
      · subst q
        obtain ⟨v, S1, S2, m2, c1, c2, gB, g0⟩ := p_kind hB (xs.getD (i + 1) 0) (xs.getD (i + 2) 0)
        have z1 : S1.2 0 = xs := (scr_keep c1).trans h0
        obtain ⟨S3, g⟩ := nx S2 m2 (g0.trans h0) gB
        refine ⟨S3, ?_⟩
        rw [show nI 13 = (13 : Int32) from rfl, s166_32_13, ← g]
        simp only [s166_409, s166_410, s166_411, s166_412, s166_413, s166_414, s166_415, s166_416, s166_417, s166_418, s166_419, s166_420, s166_423, s166_424, s166_425, s166_426, s166_427, s166_428, s166_429, s166_430, s166_431, s166_432, s166_433, s166_434, s166_437, nI_1, e2, e3, g1 S _ h0, g1 S1 _ z1, g2 S _ h0, g2 S1 _ z1, List.length_cons, List.length_nil, Nat.reduceAdd, Nat.reduceLeDiff, Nat.zero_le, tag1, qt, c1, c2, vbind_some, vpush_some]
        rw [if_pos trivial]
      · subst q
        obtain ⟨v, S1, S2, m2, c1, c2, gB, g0⟩ := p_length hB (xs.getD (i + 1) 0) (xs.getD (i + 2) 0)
        have z1 : S1.2 0 = xs := (scr_keep c1).trans h0
        obtain ⟨S3, g⟩ := nx S2 m2 (g0.trans h0) gB
        refine ⟨S3, ?_⟩
        rw [show nI 14 = (14 : Int32) from rfl, s166_32_14, ← g]
        simp only [s166_442, s166_443, s166_444, s166_445, s166_446, s166_447, s166_448, s166_449, s166_450, s166_451, s166_452, s166_453, s166_456, s166_457, s166_458, s166_459, s166_460, s166_461, s166_462, s166_463, s166_464, s166_465, s166_466, s166_467, s166_470, nI_1, e2, e3, g1 S _ h0, g1 S1 _ z1, g2 S _ h0, g2 S1 _ z1, List.length_cons, List.length_nil, Nat.reduceAdd, Nat.reduceLeDiff, Nat.zero_le, tag1, qt, c1, c2, vbind_some, vpush_some]
        rw [if_pos trivial]
      · subst q
        obtain ⟨v, S1, S2, m2, c1, c2, gB, g0⟩ := p_content hB (xs.getD (i + 1) 0) (xs.getD (i + 2) 0) (xs.getD (i + 3) 0)
        have z1 : S1.2 0 = xs := (scr_keep c1).trans h0
        obtain ⟨S3, g⟩ := nx S2 m2 (g0.trans h0) gB
        refine ⟨S3, ?_⟩
        rw [show nI 15 = (15 : Int32) from rfl, s166_32_15, ← g]
        simp only [s166_475, s166_476, s166_477, s166_478, s166_479, s166_480, s166_481, s166_482, s166_483, s166_484, s166_485, s166_486, s166_487, s166_488, s166_489, s166_490, s166_491, s166_494, s166_495, s166_496, s166_497, s166_498, s166_499, s166_500, s166_501, s166_502, s166_503, s166_504, s166_505, s166_506, s166_507, s166_508, s166_509, s166_510, s166_513, nI_1, e2, e3, g1 S _ h0, g1 S1 _ z1, g2 S _ h0, g2 S1 _ z1, g3 S _ h0, g3 S1 _ z1, List.length_cons, List.length_nil, Nat.reduceAdd, Nat.reduceLeDiff, Nat.zero_le, tag1, qt, c1, c2, vbind_some, vpush_some]
        rw [if_pos trivial]
      · subst q
        obtain ⟨v, S1, S2, m2, c1, c2, gB, g0⟩ := p_closure hB (xs.getD (i + 1) 0) (xs.getD (i + 2) 0)
        have z1 : S1.2 0 = xs := (scr_keep c1).trans h0
        obtain ⟨S3, g⟩ := nx S2 m2 (g0.trans h0) gB
        refine ⟨S3, ?_⟩
        rw [show nI 16 = (16 : Int32) from rfl, s166_32_16, ← g]
        simp only [s166_518, s166_519, s166_520, s166_521, s166_522, s166_523, s166_524, s166_525, s166_526, s166_527, s166_528, s166_529, s166_532, s166_533, s166_534, s166_535, s166_536, s166_537, s166_538, s166_539, s166_540, s166_541, s166_542, s166_543, s166_546, nI_1, e2, e3, g1 S _ h0, g1 S1 _ z1, g2 S _ h0, g2 S1 _ z1, List.length_cons, List.length_nil, Nat.reduceAdd, Nat.reduceLeDiff, Nat.zero_le, tag1, qt, c1, c2, vbind_some, vpush_some]
        rw [if_pos trivial]
      · subst q
        obtain ⟨v, S1, S2, m2, c1, c2, gB, g0⟩ := p_count hB (xs.getD (i + 1) 0)
        have z1 : S1.2 0 = xs := (scr_keep c1).trans h0
        obtain ⟨S3, g⟩ := nx S2 m2 (g0.trans h0) gB
        refine ⟨S3, ?_⟩
        rw [show nI 17 = (17 : Int32) from rfl, s166_32_17, ← g]
        simp only [s166_551, s166_552, s166_553, s166_554, s166_555, s166_556, s166_557, s166_560, s166_561, s166_562, s166_563, s166_564, s166_565, s166_566, s166_569, nI_1, e2, e3, g1 S _ h0, g1 S1 _ z1, List.length_cons, List.length_nil, Nat.reduceAdd, Nat.reduceLeDiff, Nat.zero_le, tag1, qt, c1, c2, vbind_some, vpush_some]
        rw [if_pos trivial]
      · obtain ⟨S3, g⟩ := nx S _ h0 hB
        refine ⟨S3, ?_⟩
        rw [s166_32_d (Or.inr (by rw [nI_toInt (by omega)]; omega))]
        exact g
    · exact ⟨S, stop i S h0 hi hc⟩
theorem c_lawAll (hl : xs.length ≤ 2048) : ∃ H, runv 166 0 [some (.ref 0), none, none, none] [] [(104, xs.map Value.int)] = some (some (.int 1), H) := by
  have hI : InvM m0 := ⟨List.nodup_nil, List.nodup_nil, fun o ho => (by cases ho), fun o ho => (by cases ho), fun r hr => by
    left
    simp only [m0, List.mem_cons, List.not_mem_nil, or_false] at hr
    rcases hr with z | z | z | z <;> exact z, fun id hid => (by cases hid), List.nodup_nil⟩
  obtain ⟨S1, g⟩ := c_law hl 513 0 (S0 xs) m0 (by omega) (by omega) (S0_0 xs) ⟨i_cls xs, i_mod xs, hI⟩
  refine ⟨hp S1, ?_⟩
  rw [c_law0, ← g]
  simp only [s166_16, s166_17]
  rfl
end LAW
