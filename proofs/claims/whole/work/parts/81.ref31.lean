/-! the reference: workOut, the whole; sound -/
section REF31
variable {es : List Ent} {cs : List Obj}
theorem c_wo3 (h16 : es.length ≤ 16) (hu : Uniq cs) : ∀ k r (ws : Wk) b S v3 v4 v5, r + k = 17 → RLen S → REnts S es → S.1 249 19 = nI es.length → SideIs S 1 cs → ws.length = es.length → WkOk es ws → RW S ws → ∃ S1 v1 v2 v3' v4' v5', runv 65 55 [some (.ref 249), some (.int (bI (decide (b ≠ 0)))), some (.int (nI r)), v3, v4, v5] [] (hp S) = runv 65 171 [some (.ref 249), v1, v2, v3', v4', v5'] [] (hp S1) ∧ KF S S1 ∧ RW S1 (wkLp cs es k ws b) := by
  intro k
  induction k with
  | zero =>
    intro r ws b S v3 v4 v5 hr hL hE hn hC hl hO hW
    refine ⟨S, some (.int (bI (decide (b ≠ 0)))), some (.int (nI r)), v3, v4, v5, ?_, KF.rf, hW⟩
    rw [s65_55]
    simp only [s65_56, s65_58]
    rw [if_pos (show (16 : Int32) < nI r from nI_lt (a := 16) (by omega) (by omega))]
  | succ k ih =>
    intro r ws b S v3 v4 v5 hr hL hE hn hC hl hO hW
    have n16 : ¬ (16 : Int32) < nI r := nI_nlt (a := 16) (by omega) (by omega)
    have hR : wkLp cs es (k + 1) ws b = if b = 0 then ws else wkLp cs es k (wkRnd cs es es.length 0 ws 0).1 (wkRnd cs es es.length 0 ws 0).2 := rfl
    rw [hR]
    by_cases hb : b = 0
    · rw [if_pos hb]
      refine ⟨S, some (.int (bI (decide (b ≠ 0)))), some (.int (nI r)), v3, v4, v5, ?_, KF.rf, hW⟩
      rw [decide_eq_false (fun z => z hb), s65_55]
      simp only [s65_56, s65_58, s65_61, s65_62, if_neg n16, if_bI]
      rw [if_neg (by decide)]
    · rw [if_neg hb]
      obtain ⟨S1, w3, w4, w5, k1, k2, k3, k4⟩ := c_wo2 (v2 := some (.int (nI r))) h16 hu es.length 0 ws 0 S v4 v5 (by omega) (by omega) hL hE hn hC hl hO hW
      obtain ⟨S2, x1, x2, x3, x4, x5, j1, j2, j3⟩ := ih (r + 1) _ (wkRnd cs es es.length 0 ws 0).2 S1 w3 w4 w5 (by omega) (k2.len hL) (k2.ents hE) (by rw [k2.1]; exact hn) (k2.side hC) (by rw [wkRnd_len]; exact hl) k4 k3
      refine ⟨S2, x1, x2, x3, x4, x5, ?_, k2.tr j2, j3⟩
      rw [← j1]
      have e0 : (nI 0 : Int32) = 0 := rfl
      have ed : bI (decide ((0 : Nat) ≠ 0)) = 0 := by decide
      rw [e0, ed] at k1
      rw [decide_eq_true hb, s65_55]
      simp only [s65_56, s65_58, s65_61, s65_62, s65_65, s65_66, s65_67, s65_68, if_neg n16, if_bI]
      rw [if_pos trivial, k1]
      simp only [s65_165, s65_168, nI_1]
theorem c_wo4 {ws : Wk} {S : vSt} (hL : RLen S) (hW : RW S ws) (h16 : ws.length ≤ 16) (hn : S.1 249 19 = nI ws.length) {v1 v4 v5 : Option Value} : ∀ k i (a : Bool), i + k = ws.length → runv 65 175 [some (.ref 249), v1, some (.int (bI a)), some (.int (nI i)), v4, v5] [] (hp S) = some (some (.int (bI (a && (ws.drop i).all Option.isSome))), hp S) := by
  have l266 : (S.2 266).length = 16 := hL.2.2.2.2.2.2.2.2.2.2.2.2.2.2.2.2
  intro k
  induction k with
  | zero =>
    intro i a hi
    rw [s65_175]
    simp only [s65_176, s65_177, s65_180, s65_208, s65_209, q19, hn, bI_and]
    rw [if_pos (nI_le (by omega) (by omega)), List.drop_of_length_le (by omega)]
    simp
  | succ k ih =>
    intro i a hi
    have hil : i < ws.length := by omega
    obtain ⟨d1, d2⟩ := hW i _ (List.getElem?_eq_getElem hil)
    have r := fun (K : Value → Option (Option Value × vH)) => gb (S := S) (i := i) (K := K) (a := 266) rfl l266 (show i < 16 by omega) (by omega)
    have nn : ¬ nI ws.length ≤ nI i := nI_ge (by omega) (by omega)
    have nx : ∀ a2 : Bool, runv 65 201 [some (.ref 249), v1, some (.int (bI a)), some (.int (nI i)), v4, v5] [.int (bI a2)] (hp S) = some (some (.int (bI (a2 && (ws.drop (i + 1)).all Option.isSome))), hp S) := fun a2 => by
      rw [← ih (i + 1) a2 (by omega)]
      simp only [s65_201, s65_202, s65_205, nI_1]
    rw [s65_175, List.drop_eq_getElem_cons hil, List.all_cons]
    simp only [s65_176, s65_177, s65_180, s65_183, s65_184, s65_187, s65_188, s65_191, s65_192, s65_193, s65_196, s65_197, s65_200, q19, hn, if_neg nn, q24, r, d1, if_bI]
    cases a with
    | false =>
      rw [if_neg (by decide)]
      exact nx false
    | true =>
      rw [if_pos rfl]
      cases ws[i].isSome with
      | false => rw [if_neg (by decide)]; exact nx false
      | true => rw [if_pos rfl]; exact nx true
theorem all_rdy (ws : Wk) : ws.all Option.isSome = decide (rdy ws = ws.length) := by
  unfold rdy
  rw [Bool.eq_iff_iff, decide_eq_true_eq, List.countP_eq_length, List.all_eq_true]
theorem c_rworkOut {S : vSt} (h16 : es.length ≤ 16) (hu : Uniq cs) (hL : RLen S) (hE : REnts S es) (hn : S.1 249 19 = nI es.length) (hC : SideIs S 1 cs) : ∃ S1, callv 65 [.ref 249] (hp S) = some (some (.int (bI (decide (rdy (wkOut cs es) = es.length)))), hp S1) ∧ KF S S1 ∧ RW S1 (wkOut cs es) := by
  obtain ⟨S1, v1, a1, a2, a3⟩ := c_wo1 (v2 := none) (v3 := none) (v4 := none) (v5 := none) h16 es.length 0 S (by omega) hL hE hn (fun i w hi => by simp at hi)
  have ml : (es.map wk0).length = es.length := List.length_map ..
  have hO : WkOk es (es.map wk0) := by
    intro i en hi hw
    rw [List.getElem?_map, hi] at hw
    injection hw with hw
    unfold wk0 at hw
    split at hw
    · cases hw
    · omega
  obtain ⟨S2, w1, w2, w3, w4, w5, b1, b2, b3⟩ := c_wo3 h16 hu 17 0 (es.map wk0) 1 S1 none none none (by omega) (a2.len hL) (a2.ents hE) (by rw [a2.1]; exact hn) (a2.side hC) ml hO a3
  have e17 : wkLp cs es 17 (es.map wk0) 1 = wkOut cs es := by
    have := wkLp_ge cs es (es.map wk0) 1 ml (17 - es.length)
    rw [show es.length + (17 - es.length) = 17 by omega] at this
    exact this
  rw [e17] at b3
  have F2 := a2.tr b2
  have wl : (wkOut cs es).length = es.length := by
    unfold wkOut
    rw [wkLp_len]
    exact ml
  have c1 := c_wo4 (v1 := w1) (v4 := w4) (v5 := w5) (F2.len hL) b3 (by omega) (by rw [F2.1, wl]; exact hn) (wkOut cs es).length 0 true (by omega)
  refine ⟨S2, ?_, F2, b3⟩
  have e0 : (nI 0 : Int32) = 0 := rfl
  have ed : bI (decide ((1 : Nat) ≠ 0)) = 1 := by decide
  have et : bI true = 1 := rfl
  rw [e0] at a1 b1 c1
  rw [ed] at b1
  rw [et, List.drop_zero, Bool.true_and, all_rdy, wl] at c1
  show runv 65 0 [some (.ref 249), none, none, none, none, none] [] (hp S) = _
  simp only [s65_0, s65_1]
  rw [a1]
  simp only [s65_51, s65_52, s65_53, s65_54]
  rw [b1]
  simp only [s65_171, s65_172, s65_173, s65_174]
  exact c1
/-- the objects that were got -/
def GR (S : vSt) (gs : List Obj) : Prop := S.1 249 19 = nI gs.length ∧ gs.length ≤ 16 ∧ ∀ (i : Nat) (o : Obj), gs[i]? = some o → SltIs S (40 + i) o
theorem RW.got {S : vSt} {ws : Wk} (h : RW S ws) (hr : rdy ws = ws.length) (h16 : ws.length ≤ 16) (hn : S.1 249 19 = nI ws.length) : GR S (ws.filterMap id) ∧ (ws.filterMap id).length = ws.length := by
  have hall : ∀ w ∈ ws, ∃ o, w = some o := by
    unfold rdy at hr
    rw [List.countP_eq_length] at hr
    intro w hw
    have := hr w hw
    cases w with
    | none => cases this
    | some o => exact ⟨o, rfl⟩
  have hm : ∀ (ws : Wk), (∀ w ∈ ws, ∃ o, w = some o) → (ws.filterMap id).map some = ws := by
    intro ws
    induction ws with
    | nil => intro _; rfl
    | cons w t ih =>
      intro hq
      obtain ⟨o, rfl⟩ := hq w List.mem_cons_self
      show some o :: (t.filterMap id).map some = some o :: t
      rw [ih (fun w hw => hq w (List.mem_cons_of_mem _ hw))]
  have e := hm ws hall
  have el : (ws.filterMap id).length = ws.length := by
    have := congrArg List.length e
    rw [List.length_map] at this
    exact this
  refine ⟨⟨by rw [el]; exact hn, by rw [el]; exact h16, fun i o hi => ?_⟩, el⟩
  have hi2 : ws[i]? = some (some o) := by
    have h1 : ((ws.filterMap id).map some)[i]? = some (some o) := by rw [List.getElem?_map, hi]; rfl
    rw [e] at h1
    exact h1
  exact (h i _ hi2).2 o rfl
theorem clO_f {o g : Obj} : clO o g = false ↔ (oid o.1 o.2 ≠ oid g.1 g.2 ∨ o = g) := by
  unfold clO
  rw [decide_eq_false_iff_not]
  constructor
  · intro h
    by_cases c : oid o.1 o.2 = oid g.1 g.2
    · right
      apply Classical.byContradiction
      intro z
      exact h ⟨c, fun w => z (Prod.ext w.1 w.2)⟩
    · exact Or.inl c
  · rintro (h | h) ⟨h1, h2⟩
    · exact h h1
    · subst h
      exact h2 ⟨rfl, rfl⟩
theorem c_snd_in {S : vSt} {gs : List Obj} (hL : RLen S) (hG : GR S gs) {e : Nat} (hel : e < gs.length) {v4 : Option Value} : ∀ n k (b : Bool), k + n = e → ∃ (c : Bool) (v5 : Option Value), (c = true ↔ b = true ∧ ∀ r, k ≤ r → r < e → clO gs[e] (gs.getD r (0, [])) = false) ∧ runv 66 71 [some (.ref 249), some (.int (bI b)), some (.int (nI e)), some (.int (nI (oid gs[e].1 gs[e].2))), v4, some (.int (nI k))] [] (hp S) = runv 66 122 [some (.ref 249), some (.int (bI c)), some (.int (nI e)), some (.int (nI (oid gs[e].1 gs[e].2))), v4, v5] [] (hp S) := by
  have h16 := hG.2.1
  have tq := qt (S := S)
  have se := hG.2.2 e _ (List.getElem?_eq_getElem hel)
  intro n
  induction n with
  | zero =>
    intro k b hk
    have : k = e := by omega
    subst this
    refine ⟨b, some (.int (nI k)), ⟨fun h => ⟨h, fun r h1 h2 => by omega⟩, fun h => h.1⟩, ?_⟩
    rw [s66_71]
    simp only [s66_73, s66_74]
    rw [if_pos (nI_le (Nat.le_refl _) (by omega))]
  | succ n ih =>
    intro k b hk
    have hkl : k < gs.length := by omega
    have sk_ := hG.2.2 k _ (List.getElem?_eq_getElem hkl)
    have hgk : gs.getD k (0, []) = gs[k] := by rw [List.getD_eq_getElem?_getD, List.getElem?_eq_getElem hkl]; rfl
    have hid := c_idOf hL sk_
    have hsm := c_rsame hL sk_ se
    have o1 := oid_lt gs[k].1 gs[k].2
    have o2 := oid_lt gs[e].1 gs[e].2
    have kk : (nI (oid gs[k].1 gs[k].2) = nI (oid gs[e].1 gs[e].2)) = (oid gs[k].1 gs[k].2 = oid gs[e].1 gs[e].2) := nI_inj (by omega) (by omega)
    have i40 : ∀ x : Nat, (40 : Int32) + nI x = nI (40 + x) := fun x => nI_add 40 x
    have nn : ¬ nI e ≤ nI k := nI_ge (by omega) (by omega)
    have nx : ∀ c : Bool, runv 66 115 [some (.ref 249), some (.int (bI b)), some (.int (nI e)), some (.int (nI (oid gs[e].1 gs[e].2))), v4, some (.int (nI k))] [.int (bI c)] (hp S) = runv 66 71 [some (.ref 249), some (.int (bI c)), some (.int (nI e)), some (.int (nI (oid gs[e].1 gs[e].2))), v4, some (.int (nI (k + 1)))] [] (hp S) := fun c => by
      simp only [s66_115, s66_116, s66_119, nI_1]
    have hcl : clO gs[e] (gs.getD k (0, [])) = false ↔ (oid gs[k].1 gs[k].2 ≠ oid gs[e].1 gs[e].2 ∨ gs[k] = gs[e]) := by
      rw [hgk, clO_f]
      exact ⟨fun h => h.elim (fun z => Or.inl (fun w => z w.symm)) (fun z => Or.inr z.symm), fun h => h.elim (fun z => Or.inl (fun w => z w.symm)) (fun z => Or.inr z.symm)⟩
    -- what the step makes of good
    have step : ∃ c2 : Bool, (c2 = true ↔ b = true ∧ clO gs[e] (gs.getD k (0, [])) = false) ∧ runv 66 71 [some (.ref 249), some (.int (bI b)), some (.int (nI e)), some (.int (nI (oid gs[e].1 gs[e].2))), v4, some (.int (nI k))] [] (hp S) = runv 66 71 [some (.ref 249), some (.int (bI c2)), some (.int (nI e)), some (.int (nI (oid gs[e].1 gs[e].2))), v4, some (.int (nI (k + 1)))] [] (hp S) := by
      have st : runv 66 71 [some (.ref 249), some (.int (bI b)), some (.int (nI e)), some (.int (nI (oid gs[e].1 gs[e].2))), v4, some (.int (nI k))] [] (hp S) = if b = true then (if oid gs[k].1 gs[k].2 = oid gs[e].1 gs[e].2 then (if decide (gs[k] = gs[e]) = true then runv 66 110 [some (.ref 249), some (.int (bI b)), some (.int (nI e)), some (.int (nI (oid gs[e].1 gs[e].2))), v4, some (.int (nI k))] [] (hp S) else runv 66 114 [some (.ref 249), some (.int (bI b)), some (.int (nI e)), some (.int (nI (oid gs[e].1 gs[e].2))), v4, some (.int (nI k))] [] (hp S)) else runv 66 110 [some (.ref 249), some (.int (bI b)), some (.int (nI e)), some (.int (nI (oid gs[e].1 gs[e].2))), v4, some (.int (nI k))] [] (hp S)) else runv 66 114 [some (.ref 249), some (.int (bI b)), some (.int (nI e)), some (.int (nI (oid gs[e].1 gs[e].2))), v4, some (.int (nI k))] [] (hp S) := by
        rw [s66_71]
        simp only [s66_73, s66_74, s66_77, s66_78, s66_81, s66_82, s66_84, s66_86, s66_87, s66_90, s66_91, s66_94, s66_95, s66_97, s66_99, s66_100, s66_102, s66_103, s66_104, s66_107, if_neg nn, if_bI, i40, List.length_cons, List.length_nil, Nat.reduceAdd, Nat.reduceLeDiff, Nat.zero_le, tq, hid, hsm, vbind_some, vpush_some, kk]
      have f1 : runv 66 110 [some (.ref 249), some (.int (bI b)), some (.int (nI e)), some (.int (nI (oid gs[e].1 gs[e].2))), v4, some (.int (nI k))] [] (hp S) = runv 66 71 [some (.ref 249), some (.int (bI true)), some (.int (nI e)), some (.int (nI (oid gs[e].1 gs[e].2))), v4, some (.int (nI (k + 1)))] [] (hp S) := by
        simp only [s66_110, s66_111]
        exact nx true
      have f0 : runv 66 114 [some (.ref 249), some (.int (bI b)), some (.int (nI e)), some (.int (nI (oid gs[e].1 gs[e].2))), v4, some (.int (nI k))] [] (hp S) = runv 66 71 [some (.ref 249), some (.int (bI false)), some (.int (nI e)), some (.int (nI (oid gs[e].1 gs[e].2))), v4, some (.int (nI (k + 1)))] [] (hp S) := by
        simp only [s66_114]
        exact nx false
      rw [st, f1, f0]
      cases b with
      | false =>
        rw [if_neg (by decide)]
        exact ⟨false, ⟨fun h => absurd h (by decide), fun h => absurd h.1 (by decide)⟩, rfl⟩
      | true =>
        rw [if_pos rfl]
        by_cases c1 : oid gs[k].1 gs[k].2 = oid gs[e].1 gs[e].2
        · rw [if_pos c1]
          by_cases c2 : gs[k] = gs[e]
          · rw [if_pos (decide_eq_true c2)]
            exact ⟨true, ⟨fun _ => ⟨rfl, hcl.mpr (Or.inr c2)⟩, fun _ => rfl⟩, rfl⟩
          · rw [if_neg (by rw [decide_eq_false c2]; decide)]
            refine ⟨false, ⟨fun h => absurd h (by decide), fun h => ?_⟩, rfl⟩
            rcases hcl.mp h.2 with z | z
            · exact absurd c1 z
            · exact absurd z c2
        · rw [if_neg c1]
          exact ⟨true, ⟨fun _ => ⟨rfl, hcl.mpr (Or.inl c1)⟩, fun _ => rfl⟩, rfl⟩
    obtain ⟨c2, s1, s2⟩ := step
    obtain ⟨c, v5, g1, g2⟩ := ih (k + 1) c2 (by omega)
    refine ⟨c, v5, ?_, s2.trans g2⟩
    rw [g1, s1]
    constructor
    · rintro ⟨⟨h1, h2⟩, h3⟩
      refine ⟨h1, fun r h4 h5 => ?_⟩
      by_cases q : r = k
      · subst q; exact h2
      · exact h3 r (by omega) h5
    · rintro ⟨h1, h2⟩
      exact ⟨⟨h1, h2 k (by omega) (by omega)⟩, fun r h4 h5 => h2 r (by omega) h5⟩
end REF31
