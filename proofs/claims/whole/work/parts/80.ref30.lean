/-! the reference: workOut -/
theorem wkLp_0 (cs : List Obj) (es : List Ent) : ∀ k (ws : Wk), wkLp cs es k ws 0 = ws := by
  intro k ws
  cases k with
  | zero => rfl
  | succ k => unfold wkLp; rw [if_pos rfl]
theorem wkRnd_len (cs : List Obj) (es : List Ent) : ∀ k i (ws : Wk) n, (wkRnd cs es k i ws n).1.length = ws.length := by
  intro k
  induction k with
  | zero => intro i ws n; rfl
  | succ k ih =>
    intro i ws n
    unfold wkRnd
    split
    · rfl
    · split
      · split
        · exact ih _ _ _
        · rw [ih, List.length_set]
      · exact ih _ _ _
theorem rdy_full {ws : Wk} (h : rdy ws = ws.length) : ∀ i : Nat, ws[i]? ≠ some none := by
  intro i hi
  unfold rdy at h
  rw [List.countP_eq_length] at h
  have hm : (none : Option Obj) ∈ ws := List.mem_of_getElem? hi
  have := h none hm
  cases this
theorem wkRnd_all (cs : List Obj) (es : List Ent) {ws : Wk} (h : ∀ i : Nat, ws[i]? ≠ some none) : ∀ k i n, wkRnd cs es k i ws n = (ws, n) := by
  intro k
  induction k with
  | zero => intro i n; rfl
  | succ k ih =>
    intro i n
    unfold wkRnd
    split
    · rfl
    · rw [if_neg (h i)]
      exact ih _ _
theorem wkLp_st (cs : List Obj) (es : List Ent) : ∀ k (ws : Wk) b, ws.length = es.length → es.length ≤ rdy ws + k → wkLp cs es (k + 1) ws b = wkLp cs es k ws b := by
  intro k
  induction k with
  | zero =>
    intro ws b hl hr
    have h1 := rdy_le ws
    have h2 := wkRnd_all cs es (rdy_full (ws := ws) (by omega)) es.length 0 0
    show (if b = 0 then ws else wkLp cs es 0 (wkRnd cs es es.length 0 ws 0).1 (wkRnd cs es es.length 0 ws 0).2) = ws
    rw [h2]
    split <;> rfl
  | succ k ih =>
    intro ws b hl hr
    have hc := wkRnd_cnt cs es es.length 0 ws 0
    show (if b = 0 then ws else wkLp cs es (k + 1) (wkRnd cs es es.length 0 ws 0).1 (wkRnd cs es es.length 0 ws 0).2) = (if b = 0 then ws else wkLp cs es k (wkRnd cs es es.length 0 ws 0).1 (wkRnd cs es es.length 0 ws 0).2)
    by_cases hb : b = 0
    · rw [if_pos hb, if_pos hb]
    · rw [if_neg hb, if_neg hb]
      by_cases hz : (wkRnd cs es es.length 0 ws 0).2 = 0
      · rw [hz, wkLp_0, wkLp_0]
      · exact ih _ _ (by rw [wkRnd_len]; exact hl) (by omega)
theorem wkLp_ge (cs : List Obj) (es : List Ent) (ws : Wk) (b : Nat) (hl : ws.length = es.length) : ∀ d, wkLp cs es (es.length + d) ws b = wkLp cs es es.length ws b := by
  intro d
  induction d with
  | zero => rfl
  | succ d ih => rw [← ih]; exact wkLp_st cs es (es.length + d) ws b hl (by omega)
theorem wkLp_len (cs : List Obj) (es : List Ent) : ∀ k (ws : Wk) b, (wkLp cs es k ws b).length = ws.length := by
  intro k
  induction k with
  | zero => intro ws b; rfl
  | succ k ih =>
    intro ws b
    unfold wkLp
    split
    · rfl
    · rw [ih, wkRnd_len]
/-- whoever is not ready is a difference -/
def WkOk (es : List Ent) (ws : Wk) : Prop := ∀ (i : Nat) (en : Ent), es[i]? = some en → ws[i]? = some none → 3 < en.2.1
section REF30
variable {es : List Ent} {cs : List Obj}
theorem RW.set {S S1 : vSt} {ws : Wk} {e : Nat} {w : Option Obj} (h : RW S ws) (hl : (S.2 266).length = 16) (hc : SC (40 + e) S S1) (he : e < 16) (hw : ∀ o, w = some o → SltIs S1 (40 + e) o) : RW (au S1 266 ((S1.2 266).set e (bI w.isSome))) (ws.set e w) := by
  intro i w2 hi
  have e266 : S1.2 266 = S.2 266 := hc.1.2.1 _ (by omega) (by omega) (by omega)
  by_cases q : i = e
  · subst q
    have hlt : i < ws.length := by
      have := (List.getElem?_eq_some_iff.mp hi).1
      rw [List.length_set] at this
      exact this
    rw [List.getElem?_set_self hlt] at hi
    injection hi with hi
    subst hi
    refine ⟨by rw [au_at, getD_set_self (by rw [e266, hl]; exact he)], fun o ho => (hw o ho).of (au_a _ _ (by omega)) (au_a _ _ (by omega)) (au_a _ _ (by omega))⟩
  · rw [List.getElem?_set_ne (fun z => q z.symm)] at hi
    obtain ⟨d1, d2⟩ := h i w2 hi
    refine ⟨by rw [au_at, getD_set_ne (fun z => q z.symm), e266]; exact d1, fun o ho => ((d2 o ho).ch hc.1 (by omega)).of (au_a _ _ (by omega)) (au_a _ _ (by omega)) (au_a _ _ (by omega))⟩
theorem c_wo1 (h16 : es.length ≤ 16) {v2 v3 v4 v5 : Option Value} : ∀ k i S, i + k = es.length → RLen S → REnts S es → S.1 249 19 = nI es.length → RW S ((es.take i).map wk0) → ∃ S1 v1, runv 65 2 [some (.ref 249), some (.int (nI i)), v2, v3, v4, v5] [] (hp S) = runv 65 51 [some (.ref 249), v1, v2, v3, v4, v5] [] (hp S1) ∧ KF S S1 ∧ RW S1 (es.map wk0) := by
  intro k
  induction k with
  | zero =>
    intro i S hi hL hE hn hW
    rw [List.take_of_length_le (by omega)] at hW
    refine ⟨S, some (.int (nI i)), ?_, KF.rf, hW⟩
    rw [s65_2]
    simp only [s65_3, s65_4, s65_7, q19, hn]
    rw [if_pos (nI_le (by omega) (by omega))]
  | succ k ih =>
    intro i S hi hL hE hn hW
    have hil : i < es.length := by omega
    obtain ⟨e1, e2⟩ := hE i _ (List.getElem?_eq_getElem hil)
    have l262 : (S.2 262).length = 16 := hL.2.2.2.2.2.2.2.2.2.2.2.2.1
    have l266 : (S.2 266).length = 16 := hL.2.2.2.2.2.2.2.2.2.2.2.2.2.2.2.2
    have s8 : es[i].2.1 < 8 := by rcases e2.2.1 with q | q | q <;> omega
    have hs := e1.2.1
    have r1 := fun (K : Value → Option (Option Value × vH)) => ga (S := S) (i := i) (K := K) (a := 262) rfl l262 (show i < 16 by omega) (by omega)
    have nn : ¬ nI es.length ≤ nI i := nI_ge (by omega) (by omega)
    have etk : (es.take (i + 1)).map wk0 = (es.take i).map wk0 ++ [wk0 es[i]] := by
      rw [List.take_succ, List.getElem?_eq_getElem hil, List.map_append]
      rfl
    have tl : ((es.take i).map wk0).length = i := by rw [List.length_map, List.length_take]; omega
    -- the mark is written
    have wr : ∀ b : Bool, runv 65 30 [some (.ref 249), some (.int (nI i)), v2, v3, v4, v5] [.int (bI b), .int (nI i), .ref 266] (hp S) = if b = true then vbind (callv 64 [.ref 249, .int (nI i)] (hp (au S 266 ((S.2 266).set i (bI b))))) (fun v h' => runv 65 45 [some (.ref 249), some (.int (nI i)), v2, v3, v4, v5] (vpush v []) h') else runv 65 45 [some (.ref 249), some (.int (nI i)), v2, v3, v4, v5] [] (hp (au S 266 ((S.2 266).set i (bI b)))) := fun b => by
      have tq1 := qt (S := au S 266 ((S.2 266).set i (bI b)))
      have w := fun (K2 : vH → Option (Option Value × vH)) => gbs (S := S) (i := i) (x := bI b) (K2 := K2) (a := 266) rfl l266 (show i < 16 by omega) (by omega)
      have r := fun (K : Value → Option (Option Value × vH)) => gb (S := au S 266 ((S.2 266).set i (bI b))) (i := i) (K := K) (a := 266) rfl (by rw [au_at, List.length_set]; exact l266) (show i < 16 by omega) (by omega)
      have rr : ((au S 266 ((S.2 266).set i (bI b))).2 266).getD i 0 = bI b := by rw [au_at, getD_set_self (by omega)]
      simp only [s65_30, s65_31, s65_32, s65_35, s65_36, s65_37, s65_40, s65_41, s65_42, bI_and, w, q24, r, rr, if_bI, List.length_cons, List.length_nil, Nat.reduceAdd, Nat.reduceLeDiff, Nat.zero_le, tq1]
    have st : runv 65 2 [some (.ref 249), some (.int (nI i)), v2, v3, v4, v5] [] (hp S) = runv 65 30 [some (.ref 249), some (.int (nI i)), v2, v3, v4, v5] [.int (bI (decide (es[i].2.1 ≤ 3))), .int (nI i), .ref 266] (hp S) := by
      rw [s65_2]
      simp only [s65_3, s65_4, s65_7, s65_10, s65_11, s65_14, s65_15, s65_16, s65_19, s65_20, s65_21, s65_22, s65_25, s65_26, s65_29, q19, hn, if_neg nn, q24, q20, r1, hs]
      by_cases c : es[i].2.1 ≤ 3
      · rw [if_neg (show ¬ (3 : Int32) < nI es[i].2.1 from nI_nlt (a := 3) c (by omega)), decide_eq_true c]
        rfl
      · rw [if_pos (show (3 : Int32) < nI es[i].2.1 from nI_lt (a := 3) (by omega) (by omega)), decide_eq_false c]
        rfl
    have nx : ∀ T : vSt, runv 65 45 [some (.ref 249), some (.int (nI i)), v2, v3, v4, v5] [] (hp T) = runv 65 2 [some (.ref 249), some (.int (nI (i + 1))), v2, v3, v4, v5] [] (hp T) := fun T => by
      simp only [s65_45, s65_48, nI_1]
    have F1 : ∀ x, KF S (au S 266 ((S.2 266).set i x)) := fun x => KF.dn
    rw [st, wr]
    by_cases c : es[i].2.1 ≤ 3
    · rw [decide_eq_true c, if_pos rfl]
      obtain ⟨S1, g1, g2, g3⟩ := c_takeW (S := au S 266 ((S.2 266).set i (bI true))) (e := i) (en := es[i]) (by omega) ((F1 _).len hL) ((F1 _).ent e1) e2 c
      have F2 := (F1 (bI true)).tr (g3.k (by omega))
      have e266 : S1.2 266 = (S.2 266).set i (bI true) := by rw [g3.1.2.1 _ (by omega) (by omega) (by omega), au_at]
      have W2 : RW S1 ((es.take (i + 1)).map wk0) := by
        rw [etk]
        intro j w hj
        by_cases q : j < i
        · rw [List.getElem?_append_left (by omega)] at hj
          obtain ⟨d1, d2⟩ := hW j w hj
          refine ⟨by rw [e266, getD_set_ne (by omega)]; exact d1, fun o ho => ?_⟩
          have h1 : SltIs (au S 266 ((S.2 266).set i (bI true))) (40 + j) o := (d2 o ho).of (au_a _ _ (by omega)) (au_a _ _ (by omega)) (au_a _ _ (by omega))
          exact h1.ch g3.1 (by omega)
        · have hji : j = i := by
            have := (List.getElem?_eq_some_iff.mp hj).1
            rw [List.length_append, tl, List.length_singleton] at this
            omega
          subst hji
          rw [List.getElem?_append_right (by omega), tl, Nat.sub_self] at hj
          injection hj with hj
          have hk : wk0 es[j] = some (es[j].2.1, es[j].2.2.2.2) := by unfold wk0; rw [if_pos c]
          rw [hk] at hj
          subst hj
          refine ⟨by rw [e266, getD_set_self (by omega)]; rfl, fun o ho => ?_⟩
          injection ho with ho
          subst ho
          exact g2
      obtain ⟨S2, v1, k1, k2, k3⟩ := ih (i + 1) S1 (by omega) (F2.len hL) (F2.ents hE) (by rw [F2.1]; exact hn) W2
      refine ⟨S2, v1, ?_, F2.tr k2, k3⟩
      rw [g1, vbind_some, vpush_none, nx]
      exact k1
    · rw [decide_eq_false c, if_neg (by decide)]
      have W2 : RW (au S 266 ((S.2 266).set i (bI false))) ((es.take (i + 1)).map wk0) := by
        rw [etk]
        intro j w hj
        by_cases q : j < i
        · rw [List.getElem?_append_left (by omega)] at hj
          obtain ⟨d1, d2⟩ := hW j w hj
          exact ⟨by rw [au_at, getD_set_ne (by omega)]; exact d1, fun o ho => (d2 o ho).of (au_a _ _ (by omega)) (au_a _ _ (by omega)) (au_a _ _ (by omega))⟩
        · have hji : j = i := by
            have := (List.getElem?_eq_some_iff.mp hj).1
            rw [List.length_append, tl, List.length_singleton] at this
            omega
          subst hji
          rw [List.getElem?_append_right (by omega), tl, Nat.sub_self] at hj
          injection hj with hj
          have hk : wk0 es[j] = none := by unfold wk0; rw [if_neg c]
          rw [hk] at hj
          subst hj
          exact ⟨by rw [au_at, getD_set_self (by omega)]; rfl, fun o ho => by cases ho⟩
      obtain ⟨S2, v1, k1, k2, k3⟩ := ih (i + 1) _ (by omega) ((F1 _).len hL) ((F1 _).ents hE) hn W2
      refine ⟨S2, v1, ?_, (F1 _).tr k2, k3⟩
      rw [nx]
      exact k1
theorem c_wo2 (h16 : es.length ≤ 16) (hu : Uniq cs) {v2 : Option Value} : ∀ k i (ws : Wk) n S v4 v5, i + k = es.length → n ≤ i → RLen S → REnts S es → S.1 249 19 = nI es.length → SideIs S 1 cs → ws.length = es.length → WkOk es ws → RW S ws → ∃ S1 v3 v4' v5', runv 65 69 [some (.ref 249), some (.int (bI (decide (n ≠ 0)))), v2, some (.int (nI i)), v4, v5] [] (hp S) = runv 65 165 [some (.ref 249), some (.int (bI (decide ((wkRnd cs es k i ws n).2 ≠ 0)))), v2, v3, v4', v5'] [] (hp S1) ∧ KF S S1 ∧ RW S1 (wkRnd cs es k i ws n).1 ∧ WkOk es (wkRnd cs es k i ws n).1 := by
  intro k
  induction k with
  | zero =>
    intro i ws n S v4 v5 hi hni hL hE hn hC hl hO hW
    refine ⟨S, some (.int (nI i)), v4, v5, ?_, KF.rf, hW, hO⟩
    rw [s65_69]
    simp only [s65_70, s65_71, s65_74, q19, hn]
    rw [if_pos (nI_le (by omega) (by omega))]
    rfl
  | succ k ih =>
    intro i ws n S v4 v5 hi hni hL hE hn hC hl hO hW
    have hil : i < es.length := by omega
    have hiw : i < ws.length := by omega
    have hen : es[i]? = some es[i] := List.getElem?_eq_getElem hil
    obtain ⟨e1, e2⟩ := hE i _ hen
    have l266 : (S.2 266).length = 16 := hL.2.2.2.2.2.2.2.2.2.2.2.2.2.2.2.2
    obtain ⟨d1, d2⟩ := hW i _ (List.getElem?_eq_getElem hiw)
    have tq := qt (S := S)
    have nn : ¬ nI es.length ≤ nI i := nI_ge (by omega) (by omega)
    have r := fun (K : Value → Option (Option Value × vH)) => gb (S := S) (i := i) (K := K) (a := 266) rfl l266 (show i < 16 by omega) (by omega)
    -- the end of a step: done[e] = done[e] || made; more = more || made
    have tail : ∀ (T : vSt) (m : Bool) (v4 : Option Value), SC (40 + i) S T → runv 65 117 [some (.ref 249), some (.int (bI (decide (n ≠ 0)))), v2, some (.int (nI i)), v4, v5] [.int (bI m)] (hp T) = runv 65 69 [some (.ref 249), some (.int (bI (decide (n ≠ 0) || m))), v2, some (.int (nI (i + 1))), v4, some (.int (bI m))] [] (hp (au T 266 ((T.2 266).set i (bI (ws[i].isSome || m))))) := fun T m v4 hc => by
      have e266 : T.2 266 = S.2 266 := hc.1.2.1 _ (by omega) (by omega) (by omega)
      have lT : (T.2 266).length = 16 := by rw [e266]; exact l266
      have rT := fun (K : Value → Option (Option Value × vH)) => gb (S := T) (i := i) (K := K) (a := 266) rfl lT (show i < 16 by omega) (by omega)
      have dT : (T.2 266).getD i 0 = bI ws[i].isSome := by rw [e266]; exact d1
      generalize decide (n ≠ 0) = a
      have w := fun (x : Bool) (K2 : vH → Option (Option Value × vH)) => gbs (S := T) (i := i) (x := bI x) (K2 := K2) (a := 266) rfl lT (show i < 16 by omega) (by omega)
      have nx : ∀ (U : vSt) (x : Bool), runv 65 158 [some (.ref 249), some (.int (bI (a))), v2, some (.int (nI i)), v4, some (.int (bI m))] [.int (bI x)] (hp U) = runv 65 69 [some (.ref 249), some (.int (bI x)), v2, some (.int (nI (i + 1))), v4, some (.int (bI m))] [] (hp U) := fun U x => by
        simp only [s65_158, s65_159, s65_162, nI_1]
      have p2 : ∀ U : vSt, runv 65 144 [some (.ref 249), some (.int (bI (a))), v2, some (.int (nI i)), v4, some (.int (bI m))] [] (hp U) = runv 65 69 [some (.ref 249), some (.int (bI (a || m))), v2, some (.int (nI (i + 1))), v4, some (.int (bI m))] [] (hp U) := fun U => by
        simp only [s65_144, s65_145, s65_148, s65_150, s65_153, s65_154, s65_157, if_bI]
        cases a with
        | true => rw [if_pos rfl]; exact nx U true
        | false =>
          rw [if_neg (by decide)]
          cases m with
          | true => rw [if_pos rfl]; exact nx U true
          | false => rw [if_neg (by decide)]; exact nx U false
      have p1 : ∀ x : Bool, runv 65 143 [some (.ref 249), some (.int (bI (a))), v2, some (.int (nI i)), v4, some (.int (bI m))] [.int (bI x), .int (nI i), .ref 266] (hp T) = runv 65 144 [some (.ref 249), some (.int (bI (a))), v2, some (.int (nI i)), v4, some (.int (bI m))] [] (hp (au T 266 ((T.2 266).set i (bI x)))) := fun x => by
        simp only [s65_143, bI_and, w]
      simp only [s65_117, s65_119, s65_120, s65_123, s65_124, s65_125, s65_128, s65_129, s65_130, s65_133, s65_135, s65_138, s65_139, s65_142, q24, rT, dT, if_bI]
      generalize ws[i].isSome = sm
      cases sm with
      | true => rw [if_pos rfl, Bool.true_or]; exact (p1 true).trans (p2 _)
      | false =>
        rw [if_neg (by decide), Bool.false_or]
        cases m with
        | true => rw [if_pos rfl]; exact (p1 true).trans (p2 _)
        | false => rw [if_neg (by decide)]; exact (p1 false).trans (p2 _)
    have same : ∀ T : vSt, SC (40 + i) S T → ws[i].isSome = false → RW (au T 266 ((T.2 266).set i (bI (ws[i].isSome || false)))) ws := fun T hc hno => by
      have hw0 : ws[i] = none := by
        cases h : ws[i] with
        | none => rfl
        | some o => rw [h] at hno; cases hno
      have := hW.set (w := none) l266 hc (show i < 16 by omega) (fun o ho => by cases ho)
      have e3 : ws.set i none = ws := by rw [← hw0]; exact List.set_getElem_self hiw
      rw [e3] at this
      rw [hno]
      exact this
    have hR : wkRnd cs es (k + 1) i ws n = (match es[i]? with
      | none => (ws, n)
      | some en => if ws[i]? = some none then (match wkOne cs ws en with
          | none => wkRnd cs es k (i + 1) ws n
          | some o => wkRnd cs es k (i + 1) (ws.set i (some o)) (n + 1))
        else wkRnd cs es k (i + 1) ws n) := rfl
    rw [hen] at hR
    simp only at hR
    by_cases c : ws[i]? = some none
    · rw [if_pos c] at hR
      have hw0 : ws[i] = none := by rw [List.getElem?_eq_getElem hiw] at c; exact Option.some.inj c
      have h3 := hO i _ hen c
      have hb := c_rbaseOf (es := es) (cs := cs) (ws := ws) (S := S) (e := i) (en := es[i]) (by omega) hL e1 e2 h3 hW hl hil h16 hn hC hu c
      rw [hw0] at d1
      unfold wkOne at hR
      cases hbs : bsOf cs ws es[i] with
      | none =>
        rw [hbs] at hb hR
        simp only at hb hR
        rw [hR]
        have st : runv 65 69 [some (.ref 249), some (.int (bI (decide (n ≠ 0)))), v2, some (.int (nI i)), v4, v5] [] (hp S) = runv 65 117 [some (.ref 249), some (.int (bI (decide (n ≠ 0)))), v2, some (.int (nI i)), some (.int (-1)), v5] [.int (bI false)] (hp S) := by
          rw [s65_69]
          simp only [s65_70, s65_71, s65_74, s65_77, s65_78, s65_81, s65_82, s65_83, s65_86, s65_87, s65_90, s65_91, s65_92, s65_95, s65_97, s65_99, s65_116, q19, hn, if_neg nn, q24, r, d1, Option.isSome_none, if_bI, List.length_cons, List.length_nil, Nat.reduceAdd, Nat.reduceLeDiff, Nat.zero_le, tq, hb, vbind_some, vpush_some]
          rw [if_neg (by decide), if_pos (by decide)]
          rfl
        have W2 := same S SC.rf (by rw [hw0]; rfl)
        obtain ⟨S2, w3, w4, w5, k1, k2, k3, k4⟩ := ih (i + 1) ws n _ (some (.int (-1))) (some (.int (bI false))) (by omega) (by omega) (KF.dn.len hL) (KF.dn.ents hE) hn (KF.dn.side hC) hl hO W2
        refine ⟨S2, w3, w4, w5, ?_, KF.dn.tr k2, k3, k4⟩
        rw [st, tail S false _ SC.rf, Bool.or_false]
        exact k1
      | some o =>
        rw [hbs] at hb hR
        simp only at hb hR
        obtain ⟨b, b1, b2, b3, b4⟩ := hb
        obtain ⟨k3', k5', k6'⟩ : es[i].2.2.2.2.length = es[i].2.2.1 ∧ es[i].2.2.1 ≤ 255 ∧ ∀ x ∈ es[i].2.2.2.2, x < 256 := ⟨e2.2.2.1, e2.2.2.2.2.1, e2.2.2.2.2.2.1⟩
        obtain ⟨T, t1, t2⟩ := c_rapply (S := S) (e := i) (b := b) (kb := o.1) (B := o.2) (D := es[i].2.2.2.2) (by omega) b3 (by omega) b4 k6' hL e1.2.2.2.2 (by rw [k3']; exact e1.2.2.1) b2
        have tqb : ¬ nI b < 0 := nI_pos (by omega)
        have st : ∀ x : Bool, callv 62 [.ref 249, .int (nI i), .int (nI b)] (hp S) = some (some (.int (bI x)), hp T) → runv 65 69 [some (.ref 249), some (.int (bI (decide (n ≠ 0)))), v2, some (.int (nI i)), v4, v5] [] (hp S) = runv 65 117 [some (.ref 249), some (.int (bI (decide (n ≠ 0)))), v2, some (.int (nI i)), some (.int (nI b)), v5] [.int (bI x)] (hp T) := fun x hx => by
          rw [s65_69]
          simp only [s65_70, s65_71, s65_74, s65_77, s65_78, s65_81, s65_82, s65_83, s65_86, s65_87, s65_90, s65_91, s65_92, s65_95, s65_97, s65_99, s65_102, s65_103, s65_104, s65_106, s65_109, s65_112, s65_113, s65_116, q19, hn, if_neg nn, q24, r, d1, Option.isSome_none, if_bI, List.length_cons, List.length_nil, Nat.reduceAdd, Nat.reduceLeDiff, Nat.zero_le, tq, b1, hx, vbind_some, vpush_some, if_neg tqb]
          rw [if_neg (by decide)]
          cases x with
          | true => rw [if_pos rfl]; rfl
          | false => rw [if_neg (by decide)]; rfl
        have FT := t1.k (show 40 ≤ 40 + i by omega)
        cases hap : apL o.2 es[i].2.2.2.2 24 with
        | none =>
          rw [hap] at t2 hR
          simp only [Option.map_none] at hR
          rw [hR]
          have W2 := same T t1 (by rw [hw0]; rfl)
          have F2 := FT.tr (KF.dn (S := T) (i := i) (x := bI (ws[i].isSome || false)))
          obtain ⟨S2, w3, w4, w5, k1, k2, k3, k4⟩ := ih (i + 1) ws n _ (some (.int (nI b))) (some (.int (bI false))) (by omega) (by omega) (F2.len hL) (F2.ents hE) (by rw [F2.1]; exact hn) (F2.side hC) hl hO W2
          refine ⟨S2, w3, w4, w5, ?_, F2.tr k2, k3, k4⟩
          rw [st false t2, tail T false _ t1, Bool.or_false]
          exact k1
        | some us =>
          rw [hap] at t2 hR
          obtain ⟨t2, t3⟩ := t2
          simp only [Option.map_some] at hR
          rw [hR]
          have W2 := hW.set (w := some (o.1, us)) l266 t1 (show i < 16 by omega) (fun o2 ho => by injection ho with ho; subst ho; exact t3)
          have F2 := FT.tr (KF.dn (S := T) (i := i) (x := bI (ws[i].isSome || true)))
          rw [Bool.or_true] at F2
          have hO2 : WkOk es (ws.set i (some (o.1, us))) := fun j en2 hj hj2 => by
            by_cases q : j = i
            · subst q
              rw [List.getElem?_set_self hiw] at hj2
              injection hj2 with hj2
              cases hj2
            · rw [List.getElem?_set_ne (fun z => q z.symm)] at hj2
              exact hO j en2 hj hj2
          obtain ⟨S2, w3, w4, w5, k1, k2, k3, k4⟩ := ih (i + 1) (ws.set i (some (o.1, us))) (n + 1) _ (some (.int (nI b))) (some (.int (bI true))) (by omega) (by omega) (F2.len hL) (F2.ents hE) (by rw [F2.1]; exact hn) (F2.side hC) (by rw [List.length_set]; exact hl) hO2 W2
          refine ⟨S2, w3, w4, w5, ?_, F2.tr k2, k3, k4⟩
          rw [st true t2, tail T true _ t1, Bool.or_true, Bool.or_true]
          rw [decide_eq_true (show n + 1 ≠ 0 by omega)] at k1
          exact k1
    · rw [if_neg c] at hR
      rw [hR]
      have hw0 : ws[i].isSome = true := by
        cases h : ws[i] with
        | none => rw [List.getElem?_eq_getElem hiw, h] at c; exact absurd rfl c
        | some o => rfl
      rw [hw0] at d1
      have st : runv 65 69 [some (.ref 249), some (.int (bI (decide (n ≠ 0)))), v2, some (.int (nI i)), v4, v5] [] (hp S) = runv 65 117 [some (.ref 249), some (.int (bI (decide (n ≠ 0)))), v2, some (.int (nI i)), some (.int (-1)), v5] [.int (bI false)] (hp S) := by
        rw [s65_69]
        simp only [s65_70, s65_71, s65_74, s65_77, s65_78, s65_81, s65_82, s65_83, s65_86, s65_87, s65_90, s65_91, s65_92, s65_95, s65_97, s65_99, s65_116, q19, hn, if_neg nn, q24, r, d1, if_bI]
        rw [if_pos trivial, if_pos (by decide)]
        rfl
      have W2 : RW (au S 266 ((S.2 266).set i (bI (ws[i].isSome || false)))) ws := by
        have := hW.set (w := ws[i]) l266 SC.rf (show i < 16 by omega) d2
        rw [List.set_getElem_self hiw] at this
        rw [Bool.or_false]
        exact this
      obtain ⟨S2, w3, w4, w5, k1, k2, k3, k4⟩ := ih (i + 1) ws n _ (some (.int (-1))) (some (.int (bI false))) (by omega) (by omega) (KF.dn.len hL) (KF.dn.ents hE) hn (KF.dn.side hC) hl hO W2
      refine ⟨S2, w3, w4, w5, ?_, KF.dn.tr k2, k3, k4⟩
      rw [st, tail S false _ SC.rf, Bool.or_false]
      exact k1
end REF30
