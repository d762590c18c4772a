/-! working out: all of it -/
def rdy (ws : Wk) : Nat := ws.countP Option.isSome
theorem rdy_le (ws : Wk) : rdy ws ≤ ws.length := List.countP_le_length
theorem wkRnd_cnt (cs : List Obj) (es : List Ent) : ∀ k i ws n, rdy (wkRnd cs es k i ws n).1 + n = rdy ws + (wkRnd cs es k i ws n).2 := by
  intro k
  induction k with
  | zero => intro i ws n; rfl
  | succ k ih =>
    intro i ws n
    unfold wkRnd
    split
    · rfl
    · split
      · rename_i hq
        split
        · exact ih _ _ _
        · rename_i o ho
          have hlt : i < ws.length := (List.getElem?_eq_some_iff.mp hq).1
          have h1 := ih (i + 1) (ws.set i (some o)) (n + 1)
          have h2 : rdy (ws.set i (some o)) = rdy ws + 1 := by
            unfold rdy
            rw [List.countP_set hlt]
            rw [List.getElem?_eq_getElem hlt] at hq
            have hq : ws[i] = none := Option.some.inj hq
            simp [hq]
          omega
      · exact ih _ _ _
def wkLp (cs : List Obj) (es : List Ent) : Nat → Wk → Nat → Wk
  | 0, ws, _ => ws
  | k + 1, ws, b => if b = 0 then ws else wkLp cs es k (wkRnd cs es es.length 0 ws 0).1 (wkRnd cs es es.length 0 ws 0).2
def wkOut (cs : List Obj) (es : List Ent) : Wk := wkLp cs es es.length (es.map wk0) 1
theorem c_workRound {S : vSt} {cs : List Obj} {es : List Ent} {ws : Wk} (hW : WkAt S es ws) (hlen : ws.length = es.length) (hC : ShelfIs S 54 24 cs) : ∃ S1, callv 124 [.ref 151] (hp S) = some (some (.int (nI (wkRnd cs es es.length 0 ws 0).2)), hp S1) ∧ Fr S S1 PW AR ∧ WkAt S1 es (wkRnd cs es es.length 0 ws 0).1 ∧ (wkRnd cs es es.length 0 ws 0).1.length = es.length := by
  obtain ⟨S1, g1, g2⟩ := c_round_loop (cs := cs) es.length 0 ws 0 S none none (by omega) hW hlen hC (by omega)
  refine ⟨S1, ?_, g2⟩
  rw [← g1]
  show runv 124 0 [some (.ref 151), none, none, none, none] [] (hp S) = _
  simp only [s124_0, s124_1, s124_2, s124_3]
  rfl
theorem c_workOut_loop2 {cs : List Obj} {es : List Ent} : ∀ k i ws b S, i + k = es.length → WkAt S es ws → ws.length = es.length → ShelfIs S 54 24 cs → b ≤ 16 → ∃ S1, runv 123 51 [some (.ref 151), some (.int (nI (rdy ws))), some (.int (nI b)), some (.int (nI i))] [] (hp S) = some (some (.int (bI (decide (rdy (wkLp cs es k ws b) = es.length)))), hp S1) ∧ Fr S S1 PW AR ∧ WkAt S1 es (wkLp cs es k ws b) ∧ (wkLp cs es k ws b).length = es.length := by
  intro k
  induction k with
  | zero =>
    intro i ws b S hi hW hlen hC hb
    have h16 := hW.1.le
    have hr := rdy_le ws
    refine ⟨S, ?_, Fr.rf, hW, hlen⟩
    rw [s123_51]
    simp only [s123_52, s123_53, s123_56, s123_78, s123_79, s123_80, s123_83, s123_86, s123_87, s123_90, s123_91, r3, hW.1.n, vb0, vb1, nI_inj (show rdy ws < 2 ^ 31 by omega) (show es.length < 2 ^ 31 by omega)]
    rw [if_pos (nI_le (by omega) (by omega))]
    unfold wkLp
    by_cases q : rdy ws = es.length
    · rw [if_pos q, decide_eq_true q]; rfl
    · rw [if_neg q, decide_eq_false q]; rfl
  | succ k ih =>
    intro i ws b S hi hW hlen hC hb
    have h16 := hW.1.le
    have hr := rdy_le ws
    have t0 := fun S => rtR (S := S)
    unfold wkLp
    by_cases hb0 : b = 0
    · rw [if_pos hb0]
      refine ⟨S, ?_, Fr.rf, hW, hlen⟩
      rw [s123_51]
      simp only [s123_52, s123_53, s123_56, s123_59, s123_60, s123_78, s123_79, s123_80, s123_83, s123_86, s123_87, s123_90, s123_91, r3, hW.1.n, vb0, vb1, nI_inj (show rdy ws < 2 ^ 31 by omega) (show es.length < 2 ^ 31 by omega)]
      rw [if_neg (nI_ge (by omega) (by omega)), hb0, if_pos (show nI 0 ≤ 0 by decide)]
      by_cases q : rdy ws = es.length
      · rw [if_pos q, decide_eq_true q]; rfl
      · rw [if_neg q, decide_eq_false q]; rfl
    · rw [if_neg hb0]
      obtain ⟨S1, g1, g2, g3, g4⟩ := c_workRound hW hlen hC
      have hcnt := wkRnd_cnt cs es es.length 0 ws 0
      have hC1 := hC.fr g2 (fun b j q => by unfold PW at q; omega) (fun b q => by unfold AR at q; omega)
      have hr2 := rdy_le (wkRnd cs es es.length 0 ws 0).1
      obtain ⟨S2, k1, k2, k3⟩ := ih (i + 1) (wkRnd cs es es.length 0 ws 0).1 (wkRnd cs es es.length 0 ws 0).2 S1 (by omega) g3 g4 hC1 (by omega)
      refine ⟨S2, ?_, g2.tr k2, k3⟩
      rw [s123_51]
      simp only [s123_52, s123_53, s123_56, s123_59, s123_60, s123_63, s123_64, s123_67, s123_68, s123_69, s123_70, s123_71, s123_72, s123_75, r3, hW.1.n, List.length_cons, List.length_nil, Nat.reduceAdd, Nat.reduceLeDiff, Nat.zero_le, t0, g1, vbind_some, vpush_some, nI_1, nI_add]
      rw [if_neg (nI_ge (by omega) (by omega)), if_neg (show ¬ nI b ≤ 0 from nI_nle (by omega) (by omega)), ← k1]
      rw [show rdy (wkRnd cs es es.length 0 ws 0).1 = rdy ws + (wkRnd cs es es.length 0 ws 0).2 by omega]
theorem c_workOut_loop1 {cs : List Obj} {es : List Ent} : ∀ k i S v3, i + k = es.length → WkAt S es ((es.take i).map wk0) → ShelfIs S 54 24 cs → ∃ S1, runv 123 4 [some (.ref 151), some (.int (nI (rdy ((es.take i).map wk0)))), some (.int (nI i)), v3] [] (hp S) = runv 123 51 [some (.ref 151), some (.int (nI (rdy (es.map wk0)))), some (.int (nI 1)), some (.int (nI 0))] [] (hp S1) ∧ Fr S S1 PW AR ∧ WkAt S1 es (es.map wk0) := by
  intro k
  induction k with
  | zero =>
    intro i S v3 hi hW hC
    have h16 := hW.1.le
    rw [List.take_of_length_le (by omega)] at hW ⊢
    refine ⟨S, ?_, Fr.rf, hW⟩
    rw [s123_4]
    simp only [s123_5, s123_6, s123_9, s123_47, s123_48, s123_49, s123_50, r3, hW.1.n]
    rw [if_pos (nI_le (by omega) (by omega))]
    rfl
  | succ k ih =>
    intro i S v3 hi hW hC
    have h16 := hW.1.le
    have hil : i < es.length := by omega
    have he : es[i]? = some es[i] := List.getElem?_eq_getElem hil
    have hEi := isEnt_e (show i < 16 by omega)
    obtain ⟨S1, g1, g2, g3⟩ := c_takeWhole (show i < 16 by omega) (hW.1.is i _ he) (hW.1.ok i _ he) (hW.2.2.2.2 i (by omega))
    have tE := fun S => nt (S := S) hEi
    have F := g2.mono (PI_PW (show i < 16 by omega)) (AI_AR (show i < 16 by omega))
    have hC1 := hC.fr F (fun b j q => by unfold PW at q; omega) (fun b q => by unfold AR at q; omega)
    have htk : (es.take (i + 1)).map wk0 = (es.take i).map wk0 ++ [wk0 es[i]] := by
      rw [List.take_succ_eq_append_getElem hil, List.map_append]
      rfl
    have hlk : ((es.take i).map wk0).length = i := by rw [List.length_map, List.length_take]; omega
    have hl24 : ∀ e, e < 16 → (S1.2 (158 + 6 * e)).length = 24 := by
      intro e he2
      have hsk : ∀ e, e < 16 → sk[158 + 6 * e]? = some (100, []) := by decide +kernel
      rw [len_keep g1 (hsk e he2), hW.2.2.2.2 e he2]
    have hW1 : WkAt S1 es ((es.take (i + 1)).map wk0) := by
      refine ⟨hW.1.wk g2, by rw [List.length_map, List.length_take]; omega, fun j w hj => ?_, fun j en hj hn => ?_, hl24⟩
      · rw [htk] at hj
        by_cases q : j < i
        · rw [List.getElem?_append_left (by omega)] at hj
          exact (hW.2.2.1 j w hj).wk g2 (by omega)
        · have hjl : j < ((es.take i).map wk0 ++ [wk0 es[i]]).length := (List.getElem?_eq_some_iff.mp hj).1
          rw [List.length_append, List.length_singleton, hlk] at hjl
          have : j = i := by omega
          subst this
          rw [List.getElem?_append_right (by omega), hlk, Nat.sub_self] at hj
          cases hj
          exact g3
      · rw [List.getElem?_map, List.getElem?_take] at hn
        split at hn
        · rw [hj] at hn
          have hn : wk0 en = none := Option.some.inj hn
          unfold wk0 at hn
          split at hn
          · cases hn
          · omega
        · cases hn
    have hr : rdy ((es.take (i + 1)).map wk0) = rdy ((es.take i).map wk0) + (if (wk0 es[i]).isSome = true then 1 else 0) := by
      unfold rdy
      rw [htk, List.countP_append]
      congr 1
      simp [List.countP_cons]
    obtain ⟨S2, k1, k2, k3⟩ := ih (i + 1) S1 v3 (by omega) hW1 hC1
    refine ⟨S2, ?_, F.tr k2, k3⟩
    rw [← k1, s123_4]
    simp only [s123_5, s123_6, s123_9, s123_12, s123_13, s123_16, s123_17, s123_18, s123_21, s123_22, s123_23, s123_26, s123_27, s123_28, s123_31, s123_34, s123_35, s123_38, s123_39, s123_40, s123_41, s123_44, r2, r3, hW.1.n, re_get (show i < 16 by omega), List.length_cons, List.length_nil, Nat.reduceAdd, Nat.reduceLeDiff, Nat.zero_le, tE, g1, vbind_some, vpush_none, n6 hEi, g3.1, if_bI, nI_1]
    rw [if_neg (nI_ge (by omega) (by omega)), hr]
    by_cases q : (wk0 es[i]).isSome = true
    · rw [if_pos q, if_pos q]
    · rw [if_neg q, if_neg q]
      rw [show nI (rdy ((es.take i).map wk0)) + 0 = nI (rdy ((es.take i).map wk0) + 0) from Int32.add_zero _]
theorem c_workOut {S : vSt} {cs : List Obj} {es : List Ent} (hE : EntsAt S es) (hL : ∀ e, e < 16 → (S.2 (158 + 6 * e)).length = 24) (hC : ShelfIs S 54 24 cs) : ∃ S1, callv 123 [.ref 151] (hp S) = some (some (.int (bI (decide (rdy (wkOut cs es) = es.length)))), hp S1) ∧ Fr S S1 PW AR ∧ WkAt S1 es (wkOut cs es) ∧ (wkOut cs es).length = es.length := by
  have hW0 : WkAt S es ((es.take 0).map wk0) := ⟨hE, by simp, by simp, by simp, hL⟩
  obtain ⟨S1, g1, g2, g3⟩ := c_workOut_loop1 (cs := cs) es.length 0 S none (by omega) hW0 hC
  have hC1 := hC.fr g2 (fun b j q => by unfold PW at q; omega) (fun b q => by unfold AR at q; omega)
  obtain ⟨S2, k1, k2, k3⟩ := c_workOut_loop2 (cs := cs) es.length 0 (es.map wk0) 1 S1 (by omega) g3 (List.length_map _) hC1 (by omega)
  refine ⟨S2, ?_, g2.tr k2, k3⟩
  show _ = some (some (Value.int (bI (decide (rdy (wkLp cs es es.length (es.map wk0) 1) = es.length)))), hp S2)
  rw [← k1, ← g1]
  show runv 123 0 [some (.ref 151), none, none, none] [] (hp S) = _
  simp only [s123_0, s123_1, s123_2, s123_3]
  rfl
