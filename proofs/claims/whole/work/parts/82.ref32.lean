/-! the reference: sound, receive -/
section REF32
variable {gs cs : List Obj}
theorem any_cl {gs : List Obj} {e : Nat} (hel : e < gs.length) : (gs.take e).any (clO gs[e]) = false ↔ ∀ r, 0 ≤ r → r < e → clO gs[e] (gs.getD r (0, [])) = false := by
  rw [List.any_eq_false]
  constructor
  · intro h r _ hr
    have hg : gs.getD r (0, []) = gs[r] := by rw [List.getD_eq_getElem?_getD, List.getElem?_eq_getElem (by omega)]; rfl
    rw [hg]
    have hm : gs[r] ∈ gs.take e := by
      rw [List.mem_iff_getElem?]
      exact ⟨r, by rw [List.getElem?_take_of_lt hr, List.getElem?_eq_getElem (by omega)]⟩
    exact Bool.eq_false_iff.mpr (h _ hm)
  · intro h x hx
    obtain ⟨r, hr⟩ := List.mem_iff_getElem?.mp hx
    have hrl := (List.getElem?_eq_some_iff.mp hr).1
    rw [List.length_take] at hrl
    rw [List.getElem?_take_of_lt (by omega), List.getElem?_eq_getElem (by omega)] at hr
    injection hr with hr
    have hg : gs.getD r (0, []) = gs[r] := by rw [List.getD_eq_getElem?_getD, List.getElem?_eq_getElem (by omega)]; rfl
    have := h r (Nat.zero_le _) (by omega)
    rw [hg, hr] at this
    rw [this]
    decide
theorem c_snd {S : vSt} (hL : RLen S) (hG : GR S gs) (hC : SideIs S 1 cs) (hu : Uniq cs) : ∀ n e (b : Bool) v3 v4 v5, e + n = gs.length → ∃ c : Bool, (c = true ↔ b = true ∧ sndF cs gs e) ∧ runv 66 4 [some (.ref 249), some (.int (bI b)), some (.int (nI e)), v3, v4, v5] [] (hp S) = some (some (.int (bI c)), hp S) := by
  have h16 := hG.2.1
  have tq := qt (S := S)
  have hcl := hC.2.2.1
  have hc1 : cap0 1 = 24 := rfl
  have hst1 : st0 1 = 16 := rfl
  intro n
  induction n with
  | zero =>
    intro e b v3 v4 v5 he
    refine ⟨b, ⟨fun h => ⟨h, fun j hj h1 => by omega⟩, fun h => h.1⟩, ?_⟩
    rw [s66_4]
    simp only [s66_5, s66_6, s66_9, s66_128, s66_129, q19, hG.1, bI_and]
    rw [if_pos (nI_le (by omega) (by omega))]
  | succ n ih =>
    intro e b v3 v4 v5 he
    have hel : e < gs.length := by omega
    have se := hG.2.2 e _ (List.getElem?_eq_getElem hel)
    have hid := c_idOf hL se
    obtain ⟨wb, w1, w2⟩ := c_rwell hL se
    have ef := c_rfind hL hC hu (nI (oid gs[e].1 gs[e].2))
    have n1 : (nI 1 : Int32) = 1 := rfl
    rw [n1] at ef
    have i40 : ∀ x : Nat, (40 : Int32) + nI x = nI (40 + x) := fun x => nI_add 40 x
    have nn : ¬ nI gs.length ≤ nI e := nI_ge (by omega) (by omega)
    have e0 : (nI 0 : Int32) = 0 := rfl
    have nx : ∀ c : Bool, runv 66 67 [some (.ref 249), some (.int (bI b)), some (.int (nI e)), some (.int (nI (oid gs[e].1 gs[e].2))), some (.int (oJ (st0 1) (fIdx cs (nI (oid gs[e].1 gs[e].2))))), v5] [.int (bI c)] (hp S) = runv 66 71 [some (.ref 249), some (.int (bI c)), some (.int (nI e)), some (.int (nI (oid gs[e].1 gs[e].2))), some (.int (oJ (st0 1) (fIdx cs (nI (oid gs[e].1 gs[e].2))))), some (.int (nI 0))] [] (hp S) := fun c => by
      simp only [s66_67, s66_68, s66_69]
      rfl
    have f1 : runv 66 62 [some (.ref 249), some (.int (bI b)), some (.int (nI e)), some (.int (nI (oid gs[e].1 gs[e].2))), some (.int (oJ (st0 1) (fIdx cs (nI (oid gs[e].1 gs[e].2))))), v5] [] (hp S) = runv 66 71 [some (.ref 249), some (.int (bI true)), some (.int (nI e)), some (.int (nI (oid gs[e].1 gs[e].2))), some (.int (oJ (st0 1) (fIdx cs (nI (oid gs[e].1 gs[e].2))))), some (.int (nI 0))] [] (hp S) := by
      simp only [s66_62, s66_63]
      exact nx true
    have f0 : runv 66 66 [some (.ref 249), some (.int (bI b)), some (.int (nI e)), some (.int (nI (oid gs[e].1 gs[e].2))), some (.int (oJ (st0 1) (fIdx cs (nI (oid gs[e].1 gs[e].2))))), v5] [] (hp S) = runv 66 71 [some (.ref 249), some (.int (bI false)), some (.int (nI e)), some (.int (nI (oid gs[e].1 gs[e].2))), some (.int (oJ (st0 1) (fIdx cs (nI (oid gs[e].1 gs[e].2))))), some (.int (nI 0))] [] (hp S) := by
      simp only [s66_66]
      exact nx false
    -- well formed, and no clash on the side
    have beg : ∃ c2 : Bool, (c2 = true ↔ b = true ∧ wfO gs[e].1 gs[e].2 ∧ clS cs gs[e] = false) ∧ runv 66 4 [some (.ref 249), some (.int (bI b)), some (.int (nI e)), v3, v4, v5] [] (hp S) = runv 66 71 [some (.ref 249), some (.int (bI c2)), some (.int (nI e)), some (.int (nI (oid gs[e].1 gs[e].2))), some (.int (oJ (st0 1) (fIdx cs (nI (oid gs[e].1 gs[e].2))))), some (.int (nI 0))] [] (hp S) := by
      have st : runv 66 4 [some (.ref 249), some (.int (bI b)), some (.int (nI e)), v3, v4, v5] [] (hp S) = if b = true then (if wb = true then runv 66 44 [some (.ref 249), some (.int (bI b)), some (.int (nI e)), some (.int (nI (oid gs[e].1 gs[e].2))), some (.int (oJ (st0 1) (fIdx cs (nI (oid gs[e].1 gs[e].2))))), v5] [] (hp S) else runv 66 66 [some (.ref 249), some (.int (bI b)), some (.int (nI e)), some (.int (nI (oid gs[e].1 gs[e].2))), some (.int (oJ (st0 1) (fIdx cs (nI (oid gs[e].1 gs[e].2))))), v5] [] (hp S)) else runv 66 66 [some (.ref 249), some (.int (bI b)), some (.int (nI e)), some (.int (nI (oid gs[e].1 gs[e].2))), some (.int (oJ (st0 1) (fIdx cs (nI (oid gs[e].1 gs[e].2))))), v5] [] (hp S) := by
        rw [s66_4]
        simp only [s66_5, s66_6, s66_9, s66_12, s66_13, s66_15, s66_16, s66_17, s66_20, s66_21, s66_22, s66_23, s66_24, s66_27, s66_29, s66_30, s66_33, s66_34, s66_36, s66_37, s66_38, s66_41, q19, hG.1, if_neg nn, if_bI, i40, List.length_cons, List.length_nil, Nat.reduceAdd, Nat.reduceLeDiff, Nat.zero_le, tq, hid, ef, w2, vbind_some, vpush_some]
      rw [st, f0]
      cases b with
      | false =>
        rw [if_neg (by decide)]
        exact ⟨false, ⟨fun h => absurd h (by decide), fun h => absurd h.1 (by decide)⟩, rfl⟩
      | true =>
        rw [if_pos rfl]
        cases wb with
        | false =>
          rw [if_neg (by decide)]
          exact ⟨false, ⟨fun h => absurd h (by decide), fun h => absurd (w1.mpr h.2.1) (by decide)⟩, rfl⟩
        | true =>
          rw [if_pos rfl]
          have hwf := w1.mp rfl
          unfold clS
          cases hf : fIdx cs (nI (oid gs[e].1 gs[e].2)) with
          | none =>
            rw [hf] at f1
            refine ⟨true, ⟨fun _ => ⟨rfl, hwf, rfl⟩, fun _ => rfl⟩, ?_⟩
            rw [← f1]
            simp only [s66_44, s66_46, oJ]
            rw [if_pos (by decide)]
          | some j =>
            rw [hf] at f1 f0
            have hj := fIdx_lt hf
            have sj := hC.2.2.2 j _ (List.getElem?_eq_getElem hj)
            have hsm := c_rsame hL sj se
            have o1 := oid_lt cs[j].1 cs[j].2
            have o2 := oid_lt gs[e].1 gs[e].2
            have hoj : oid cs[j].1 cs[j].2 = oid gs[e].1 gs[e].2 := by
              have := fIdx_is hf
              have eq_ : oAt cs j = cs[j] := by unfold oAt; rw [List.getD_eq_getElem?_getD, List.getElem?_eq_getElem hj]; rfl
              rw [eq_] at this
              exact (nI_eq (by omega) (by omega)).mp this
            have st2 : runv 66 44 [some (.ref 249), some (.int (bI true)), some (.int (nI e)), some (.int (nI (oid gs[e].1 gs[e].2))), some (.int (oJ (st0 1) (some j))), v5] [] (hp S) = if decide (cs[j] = gs[e]) = true then runv 66 62 [some (.ref 249), some (.int (bI true)), some (.int (nI e)), some (.int (nI (oid gs[e].1 gs[e].2))), some (.int (oJ (st0 1) (some j))), v5] [] (hp S) else runv 66 66 [some (.ref 249), some (.int (bI true)), some (.int (nI e)), some (.int (nI (oid gs[e].1 gs[e].2))), some (.int (oJ (st0 1) (some j))), v5] [] (hp S) := by
              have nj : ¬ nI (st0 1 + j) < 0 := nI_pos (by omega)
              simp only [s66_44, s66_46, s66_49, s66_50, s66_52, s66_54, s66_55, s66_56, s66_59, oJ, if_neg nj, i40, List.length_cons, List.length_nil, Nat.reduceAdd, Nat.reduceLeDiff, Nat.zero_le, tq, hsm, vbind_some, vpush_some, if_bI]
            rw [st2, f1, f0]
            simp only [List.getElem?_eq_getElem hj]
            by_cases c : cs[j] = gs[e]
            · rw [if_pos (decide_eq_true c)]
              exact ⟨true, ⟨fun _ => ⟨trivial, hwf, clO_f.mpr (Or.inr c.symm)⟩, fun _ => rfl⟩, rfl⟩
            · rw [if_neg (by rw [decide_eq_false c]; decide)]
              refine ⟨false, ⟨fun h => absurd h (by decide), fun h => ?_⟩, rfl⟩
              rcases clO_f.mp h.2.2 with z | z
              · exact absurd hoj.symm z
              · exact absurd z.symm c
    obtain ⟨c2, s1, s2⟩ := beg
    obtain ⟨c3, v5', t1, t2⟩ := c_snd_in hL hG hel (v4 := some (.int (oJ (st0 1) (fIdx cs (nI (oid gs[e].1 gs[e].2)))))) e 0 c2 (by omega)
    obtain ⟨c, g1, g2⟩ := ih (e + 1) c3 (some (.int (nI (oid gs[e].1 gs[e].2)))) (some (.int (oJ (st0 1) (fIdx cs (nI (oid gs[e].1 gs[e].2)))))) v5' (by omega)
    refine ⟨c, ?_, ?_⟩
    · rw [g1, t1, s1, ← any_cl hel]
      constructor
      · rintro ⟨⟨⟨h1, h2, h3⟩, h4⟩, h5⟩
        refine ⟨h1, fun j hj h6 => ?_⟩
        by_cases q : j = e
        · subst q
          exact ⟨h2, by rw [h4, h3]; rfl⟩
        · exact h5 j hj (by omega)
      · rintro ⟨h1, h2⟩
        obtain ⟨h3, h4⟩ := h2 e hel (Nat.le_refl _)
        rw [Bool.or_eq_false_iff] at h4
        exact ⟨⟨⟨h1, h3, h4.2⟩, h4.1⟩, fun j hj h6 => h2 j hj (by omega)⟩
    · rw [s2, t2, ← g2]
      simp only [s66_122, s66_125, nI_1]
theorem c_rsound {S : vSt} (hL : RLen S) (hG : GR S gs) (hC : SideIs S 1 cs) (hu : Uniq cs) : ∃ c : Bool, (c = true ↔ sndF cs gs 0) ∧ callv 66 [.ref 249] (hp S) = some (some (.int (bI c)), hp S) := by
  obtain ⟨c, g1, g2⟩ := c_snd hL hG hC hu gs.length 0 true none none none (by omega)
  refine ⟨c, g1.trans ⟨fun h => h.2, fun h => ⟨rfl, h⟩⟩, ?_⟩
  rw [← g2]
  show runv 66 0 [some (.ref 249), none, none, none, none, none] [] (hp S) = _
  simp only [s66_0, s66_1, s66_2, s66_3]
  rfl
/-! how many are new -/
theorem c_new_in {S : vSt} (hL : RLen S) (hG : GR S gs) {e : Nat} (hel : e < gs.length) {v1 : Option Value} : ∀ n k (b : Bool), k + n = e → ∃ v5, runv 67 76 [some (.ref 249), v1, some (.int (nI e)), some (.int (nI (oid gs[e].1 gs[e].2))), some (.int (bI b)), some (.int (nI k))] [] (hp S) = runv 67 113 [some (.ref 249), v1, some (.int (nI e)), some (.int (nI (oid gs[e].1 gs[e].2))), some (.int (bI (b && ((gs.take e).drop k).all (fun g => decide (oid g.1 g.2 ≠ oid gs[e].1 gs[e].2))))), v5] [] (hp S) := by
  have h16 := hG.2.1
  have tq := qt (S := S)
  intro n
  induction n with
  | zero =>
    intro k b hk
    have : k = e := by omega
    subst this
    refine ⟨some (.int (nI k)), ?_⟩
    rw [s67_76, List.drop_of_length_le (by rw [List.length_take]; omega)]
    simp only [s67_78, s67_79, List.all_nil, Bool.and_true]
    rw [if_pos (nI_le (Nat.le_refl _) (by omega))]
  | succ n ih =>
    intro k b hk
    have hkl : k < gs.length := by omega
    have sk_ := hG.2.2 k _ (List.getElem?_eq_getElem hkl)
    have hid := c_idOf hL sk_
    have o1 := oid_lt gs[k].1 gs[k].2
    have o2 := oid_lt gs[e].1 gs[e].2
    have kk : (nI (oid gs[k].1 gs[k].2) = nI (oid gs[e].1 gs[e].2)) = (oid gs[k].1 gs[k].2 = oid gs[e].1 gs[e].2) := nI_inj (by omega) (by omega)
    have i40 : ∀ x : Nat, (40 : Int32) + nI x = nI (40 + x) := fun x => nI_add 40 x
    have nn : ¬ nI e ≤ nI k := nI_ge (by omega) (by omega)
    have hd : (gs.take e).drop k = gs[k] :: (gs.take e).drop (k + 1) := by
      rw [List.drop_eq_getElem_cons (show k < (gs.take e).length by rw [List.length_take]; omega), List.getElem_take]
    have nx : ∀ c : Bool, runv 67 105 [some (.ref 249), v1, some (.int (nI e)), some (.int (nI (oid gs[e].1 gs[e].2))), some (.int (bI b)), some (.int (nI k))] [.int (bI c)] (hp S) = runv 67 76 [some (.ref 249), v1, some (.int (nI e)), some (.int (nI (oid gs[e].1 gs[e].2))), some (.int (bI c)), some (.int (nI (k + 1)))] [] (hp S) := fun c => by
      simp only [s67_105, s67_107, s67_110, nI_1]
    have st : runv 67 76 [some (.ref 249), v1, some (.int (nI e)), some (.int (nI (oid gs[e].1 gs[e].2))), some (.int (bI b)), some (.int (nI k))] [] (hp S) = runv 67 76 [some (.ref 249), v1, some (.int (nI e)), some (.int (nI (oid gs[e].1 gs[e].2))), some (.int (bI (b && decide (oid gs[k].1 gs[k].2 ≠ oid gs[e].1 gs[e].2)))), some (.int (nI (k + 1)))] [] (hp S) := by
      rw [← nx, s67_76]
      simp only [s67_78, s67_79, s67_82, s67_84, s67_87, s67_88, s67_90, s67_92, s67_93, s67_96, s67_97, s67_100, s67_101, s67_104, if_neg nn, if_bI, i40, List.length_cons, List.length_nil, Nat.reduceAdd, Nat.reduceLeDiff, Nat.zero_le, tq, hid, vbind_some, vpush_some, kk]
      cases b with
      | false => rw [if_neg (by decide)]; rfl
      | true =>
        rw [if_pos rfl, Bool.true_and]
        by_cases c : oid gs[k].1 gs[k].2 = oid gs[e].1 gs[e].2
        · rw [if_pos c, decide_eq_false (fun z => z c)]; rfl
        · rw [if_neg c, decide_eq_true c]; rfl
    obtain ⟨v5, g⟩ := ih (k + 1) (b && decide (oid gs[k].1 gs[k].2 ≠ oid gs[e].1 gs[e].2)) (by omega)
    refine ⟨v5, ?_⟩
    rw [st, g, hd, List.all_cons, Bool.and_assoc]
theorem c_new {S : vSt} (hL : RLen S) (hG : GR S gs) (hC : SideIs S 1 cs) (hu : Uniq cs) : ∀ n e m v3 v4 v5, e + n = gs.length → m ≤ e → ∃ v2' v3' v4' v5', runv 67 40 [some (.ref 249), some (.int (nI m)), some (.int (nI e)), v3, v4, v5] [] (hp S) = runv 67 132 [some (.ref 249), some (.int (nI (m + newF cs (gs.take e) (gs.drop e)))), v2', v3', v4', v5'] [] (hp S) := by
  have h16 := hG.2.1
  have tq := qt (S := S)
  have hcl := hC.2.2.1
  have hc1 : cap0 1 = 24 := rfl
  have hst1 : st0 1 = 16 := rfl
  intro n
  induction n with
  | zero =>
    intro e m v3 v4 v5 he hm
    refine ⟨some (.int (nI e)), v3, v4, v5, ?_⟩
    rw [s67_40, List.drop_of_length_le (show gs.length ≤ e by omega)]
    simp only [s67_41, s67_42, s67_45, q19, hG.1]
    rw [if_pos (nI_le (by omega) (by omega))]
    show _ = runv 67 132 [some (.ref 249), some (.int (nI (m + 0))), _, _, _, _] [] (hp S)
    rw [Nat.add_zero]
  | succ n ih =>
    intro e m v3 v4 v5 he hm
    have hel : e < gs.length := by omega
    have se := hG.2.2 e _ (List.getElem?_eq_getElem hel)
    have hid := c_idOf hL se
    have ef := c_rfind hL hC hu (nI (oid gs[e].1 gs[e].2))
    have n1 : (nI 1 : Int32) = 1 := rfl
    rw [n1] at ef
    have i40 : ∀ x : Nat, (40 : Int32) + nI x = nI (40 + x) := fun x => nI_add 40 x
    have nn : ¬ nI gs.length ≤ nI e := nI_ge (by omega) (by omega)
    have e0 : (nI 0 : Int32) = 0 := rfl
    obtain ⟨w5, lp⟩ := c_new_in hL hG hel (v1 := some (.int (nI m))) e 0 (fIdx cs (nI (oid gs[e].1 gs[e].2))).isNone (by omega)
    rw [List.drop_zero, Bool.and_comm] at lp
    have hnb : ((gs.take e).all (fun g => decide (oid g.1 g.2 ≠ oid gs[e].1 gs[e].2)) && (fIdx cs (nI (oid gs[e].1 gs[e].2))).isNone) = newB cs (gs.take e) gs[e] := rfl
    rw [hnb] at lp
    have st : runv 67 40 [some (.ref 249), some (.int (nI m)), some (.int (nI e)), v3, v4, v5] [] (hp S) = runv 67 76 [some (.ref 249), some (.int (nI m)), some (.int (nI e)), some (.int (nI (oid gs[e].1 gs[e].2))), some (.int (bI (fIdx cs (nI (oid gs[e].1 gs[e].2))).isNone)), some (.int (nI 0))] [] (hp S) := by
      rw [s67_40]
      simp only [s67_41, s67_42, s67_45, s67_48, s67_49, s67_51, s67_52, s67_53, s67_56, s67_57, s67_58, s67_59, s67_60, s67_63, s67_66, s67_67, s67_70, q19, hG.1, if_neg nn, i40, List.length_cons, List.length_nil, Nat.reduceAdd, Nat.reduceLeDiff, Nat.zero_le, tq, hid, ef, vbind_some, vpush_some]
      cases hf : fIdx cs (nI (oid gs[e].1 gs[e].2)) with
      | none =>
        rw [if_neg (show ¬ (0 : Int32) ≤ oJ (st0 1) none by decide)]
        simp only [s67_71, s67_73, s67_74]
        rfl
      | some j =>
        have hj := fIdx_lt hf
        rw [if_pos (show (0 : Int32) ≤ oJ (st0 1) (some j) from nI_pos' (by omega))]
        simp only [s67_71, s67_73, s67_74]
        rfl
    have hdr : gs.drop e = gs[e] :: gs.drop (e + 1) := List.drop_eq_getElem_cons hel
    have htk : gs.take e ++ [gs[e]] = gs.take (e + 1) := by rw [List.take_succ, List.getElem?_eq_getElem hel]; rfl
    rw [st, lp, hdr]
    have hnf : newF cs (gs.take e) (gs[e] :: gs.drop (e + 1)) = (if newB cs (gs.take e) gs[e] = true then 1 else 0) + newF cs (gs.take (e + 1)) (gs.drop (e + 1)) := by
      rw [← htk]
      rfl
    rw [hnf]
    cases hb : newB cs (gs.take e) gs[e] with
    | true =>
      obtain ⟨x2, x3, x4, x5, g⟩ := ih (e + 1) (m + 1) (some (.int (nI (oid gs[e].1 gs[e].2)))) (some (.int (bI true))) w5 (by omega) (by omega)
      refine ⟨x2, x3, x4, x5, ?_⟩
      rw [if_pos rfl, ← Nat.add_assoc, ← g]
      simp only [s67_113, s67_115, s67_118, s67_119, s67_120, s67_121, s67_124, s67_125, s67_126, s67_129, if_bI, nI_1]
      rw [if_pos trivial]
    | false =>
      obtain ⟨x2, x3, x4, x5, g⟩ := ih (e + 1) m (some (.int (nI (oid gs[e].1 gs[e].2)))) (some (.int (bI false))) w5 (by omega) (by omega)
      refine ⟨x2, x3, x4, x5, ?_⟩
      rw [if_neg (by decide), Nat.zero_add, ← g]
      simp only [s67_113, s67_115, s67_118, s67_119, s67_120, s67_121, s67_124, s67_125, s67_126, s67_129, if_bI, nI_1]
      rw [if_neg (by decide)]
end REF32
