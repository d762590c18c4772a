/-! the reference: what is new is kept; receive -/
theorem kp_mono : ∀ (t cs : List Obj), cs.length ≤ (kpF cs t).length := by
  intro t
  induction t with
  | nil => intro cs; exact Nat.le_refl _
  | cons o t ih =>
    intro cs
    unfold kpF
    refine Nat.le_trans ?_ (ih _)
    split
    · rw [List.length_append]; omega
    · exact Nat.le_refl _
theorem uniq_snoc {cs : List Obj} {o : Obj} (hu : Uniq cs) (hf : fIdx cs (nI (oid o.1 o.2)) = none) : Uniq (cs ++ [o]) := by
  have h1 := (fIdx_none (by have := oid_lt o.1 o.2; omega)).mp hf
  unfold Uniq
  rw [List.map_append, List.nodup_append]
  refine ⟨hu, by simp, ?_⟩
  intro x hx y hy e
  have hy2 : y = oid o.1 o.2 := by simpa using hy
  obtain ⟨g, hg, rfl⟩ := List.mem_map.mp hx
  exact h1 g hg (by rw [← hy2]; exact e)
theorem uniq_kp : ∀ (t cs : List Obj), Uniq cs → Uniq (kpF cs t) := by
  intro t
  induction t with
  | nil => intro cs h; exact h
  | cons o t ih =>
    intro cs h
    unfold kpF
    apply ih
    split
    · rename_i q
      exact uniq_snoc h (Option.isNone_iff_eq_none.mp q)
    · exact h
theorem w251 {S : vSt} {x : Int32} {K2 : vH → Option (Option Value × vH)} (h : (S.2 251).length = 2) : vst2 (hp S) 251 100 1 (.int x) K2 = K2 (hp (au S 251 ((S.2 251).set 1 x))) := by
  have e := gs (S := S) (i := 1) (x := x) (K2 := K2) (a := 251) (N := 2) rfl h (by omega) (by omega)
  have n1 : (nI 1 : Int32) = 1 := rfl
  rw [n1] at e
  exact e
section REF33
variable {bs : List Nat} {os gs : List Obj} {rf wn hv : List Int32}
theorem c_kp_step {S : vSt} {cs : List Obj} {e : Nat} (h : ModIs S (bs, os, cs, rf, wn, hv)) (hG : GR S gs) (hel : e < gs.length) (hl : cs.length < 24) : ∃ S1, callv 41 [.ref 249, .int (nI (40 + e)), .int (nI (16 + cs.length))] (hp S) = some (none, hp S1) ∧ (S1.2 251).length = 2 ∧ (S1.2 251).getD 1 0 = nI cs.length ∧ ModIs (au S1 251 ((S1.2 251).set 1 (nI (cs.length + 1)))) (bs, os, cs ++ [gs[e]], rf, wn, hv) ∧ GR (au S1 251 ((S1.2 251).set 1 (nI (cs.length + 1)))) gs ∧ Agr S (au S1 251 ((S1.2 251).set 1 (nI (cs.length + 1)))) 0 249 := by
  obtain ⟨h1, h2, h3, h4, h5, h6, h7, h8, h9, h10, h11, h12⟩ := h
  simp only at h2 h3 h4 h5 h6 h7 h8 h9 h10 h11 h12
  have h16 := hG.2.1
  have se := hG.2.2 e _ (List.getElem?_eq_getElem hel)
  obtain ⟨S1, g1, g2, g3⟩ := c_rcopy h1 se (t := 16 + cs.length) (by omega) (by omega)
  have L1 := h1.keep g1
  have l251 : (S1.2 251).length = 2 := L1.2.1
  have n2 : ∀ b, b ≠ 251 → b ≠ 252 → b ≠ 253 → b ≠ 254 → (au S1 251 ((S1.2 251).set 1 (nI (cs.length + 1)))).2 b = S.2 b := fun b q1 q2 q3 q4 => by rw [au_a _ _ q1]; exact g3.2.1 b q2 q3 q4
  have e251 : S1.2 251 = S.2 251 := g3.2.1 _ (by omega) (by omega) (by omega)
  have n1 : (au S1 251 ((S1.2 251).set 1 (nI (cs.length + 1)))).1 = S.1 := by rw [au_1]; exact g3.1
  have mv : ∀ {q : Nat} {o : Obj}, SltIs S1 q o → SltIs (au S1 251 ((S1.2 251).set 1 (nI (cs.length + 1)))) q o := fun hs => hs.of (au_a _ _ (by omega)) (au_a _ _ (by omega)) (au_a _ _ (by omega))
  have c5 := h5.2.2.1
  have c6 := h6.2.2.1
  have k0 : cap0 0 = 16 := rfl
  have k1 : cap0 1 = 24 := rfl
  have t0 : st0 0 = 0 := rfl
  have t1 : st0 1 = 16 := rfl
  refine ⟨S1, g1, l251, by rw [e251]; exact h6.2.1, ⟨rl_au L1 (by rw [List.length_set]), ⟨by rw [n1]; exact h2.1, by rw [n2 _ (by omega) (by omega) (by omega) (by omega)]; exact h2.2.1, by rw [n2 _ (by omega) (by omega) (by omega) (by omega)]; exact h2.2.2.1, h2.2.2.2⟩, h3, h4, ⟨h5.1, ?_, h5.2.2.1, fun i o ho => ?_⟩, ⟨h6.1, ?_, ?_, fun i o ho => ?_⟩, ?_, fun i hi => ?_, ?_, ?_, h11, ?_⟩, ⟨by rw [n1]; exact hG.1, h16, fun i o hi => ?_⟩, fun b _ hb => ⟨fun j => by rw [n1], n2 b (by omega) (by omega) (by omega) (by omega)⟩⟩
  · rw [au_at, getD_set_ne (by omega), e251]; exact h5.2.1
  · have hi : i < os.length := (List.getElem?_eq_some_iff.mp ho).1
    exact mv ((h5.2.2.2 i o ho).ch g3 (by omega))
  · rw [au_at, getD_set_self (by omega), List.length_append, List.length_singleton]
  · rw [List.length_append, List.length_singleton]
    show cs.length + 1 ≤ cap0 1
    omega
  · have hi := (List.getElem?_eq_some_iff.mp ho).1
    rw [List.length_append, List.length_singleton] at hi
    by_cases q : i < cs.length
    · rw [List.getElem?_append_left q] at ho
      exact mv ((h6.2.2.2 i o ho).ch g3 (by omega))
    · have : i = cs.length := by omega
      subst this
      rw [List.getElem?_append_right (Nat.le_refl _), Nat.sub_self] at ho
      injection ho with ho
      subst ho
      exact mv g2
  · rw [n2 _ (by omega) (by omega) (by omega) (by omega)]; exact h7
  · rw [n2 _ (by omega) (by omega) (by omega) (by omega)]; exact h8 i hi
  · rw [n1]; exact h9
  · rw [n1]; exact h10
  · rw [n2 _ (by omega) (by omega) (by omega) (by omega)]; exact h12
  · have hil := (List.getElem?_eq_some_iff.mp hi).1
    exact mv ((hG.2.2 i o hi).ch g3 (by omega))
theorem c_kp_loop {fr : Int32} : ∀ n e (cs : List Obj) S v3 v4 v5, e + n = gs.length → ModIs S (bs, os, cs, rf, wn, hv) → GR S gs → Uniq cs → (kpF cs (gs.drop e)).length ≤ 24 → ∃ S1, runv 67 151 [some (.ref 249), some (.int fr), some (.int (nI e)), v3, v4, v5] [] (hp S) = some (some (.int fr), hp S1) ∧ ModIs S1 (bs, os, kpF cs (gs.drop e), rf, wn, hv) ∧ Agr S S1 0 249 := by
  intro n
  induction n with
  | zero =>
    intro e cs S v3 v4 v5 he h hG hu hl
    have h16 := hG.2.1
    rw [List.drop_of_length_le (by omega)]
    refine ⟨S, ?_, h, Agr.rf⟩
    rw [s67_151]
    simp only [s67_152, s67_153, s67_156, s67_214, s67_215, q19, hG.1]
    rw [if_pos (nI_le (by omega) (by omega))]
  | succ n ih =>
    intro e cs S v3 v4 v5 he h hG hu hl
    have h16 := hG.2.1
    have hel : e < gs.length := by omega
    have hL := h.1
    have hC : SideIs S 1 cs := h.2.2.2.2.2.1
    have tq := qt (S := S)
    have hcl := hC.2.2.1
    have hc1 : cap0 1 = 24 := rfl
    have hst1 : st0 1 = 16 := rfl
    have se := hG.2.2 e _ (List.getElem?_eq_getElem hel)
    have hid := c_idOf hL se
    have ef := c_rfind hL hC hu (nI (oid gs[e].1 gs[e].2))
    have n1 : (nI 1 : Int32) = 1 := rfl
    rw [n1] at ef
    have i40 : ∀ x : Nat, (40 : Int32) + nI x = nI (40 + x) := fun x => nI_add 40 x
    have nn : ¬ nI gs.length ≤ nI e := nI_ge (by omega) (by omega)
    have hdr : gs.drop e = gs[e] :: gs.drop (e + 1) := List.drop_eq_getElem_cons hel
    rw [hdr] at hl ⊢
    have st : runv 67 151 [some (.ref 249), some (.int fr), some (.int (nI e)), v3, v4, v5] [] (hp S) = if 0 ≤ oJ (st0 1) (fIdx cs (nI (oid gs[e].1 gs[e].2))) then runv 67 208 [some (.ref 249), some (.int fr), some (.int (nI e)), some (.int (nI (oid gs[e].1 gs[e].2))), v4, v5] [] (hp S) else runv 67 177 [some (.ref 249), some (.int fr), some (.int (nI e)), some (.int (nI (oid gs[e].1 gs[e].2))), v4, v5] [] (hp S) := by
      rw [s67_151]
      simp only [s67_152, s67_153, s67_156, s67_159, s67_160, s67_162, s67_163, s67_164, s67_167, s67_168, s67_169, s67_170, s67_171, s67_174, q19, hG.1, if_neg nn, i40, List.length_cons, List.length_nil, Nat.reduceAdd, Nat.reduceLeDiff, Nat.zero_le, tq, hid, ef, vbind_some, vpush_some]
    have nx : ∀ T : vSt, runv 67 208 [some (.ref 249), some (.int fr), some (.int (nI e)), some (.int (nI (oid gs[e].1 gs[e].2))), v4, v5] [] (hp T) = runv 67 151 [some (.ref 249), some (.int fr), some (.int (nI (e + 1))), some (.int (nI (oid gs[e].1 gs[e].2))), v4, v5] [] (hp T) := fun T => by
      simp only [s67_208, s67_211, nI_1]
    have hk : kpF cs (gs[e] :: gs.drop (e + 1)) = kpF (if (fIdx cs (nI (oid gs[e].1 gs[e].2))).isNone = true then cs ++ [gs[e]] else cs) (gs.drop (e + 1)) := rfl
    rw [hk] at hl ⊢
    cases hf : fIdx cs (nI (oid gs[e].1 gs[e].2)) with
    | some j =>
      have hj := fIdx_lt hf
      rw [hf] at st hl
      rw [if_neg (show ¬ ((some j).isNone = true) from fun z => by cases z)] at hl ⊢
      rw [if_pos (show (0 : Int32) ≤ oJ (st0 1) (some j) from nI_pos' (by omega)), nx] at st
      rw [st]
      exact ih (e + 1) cs S _ v4 v5 (by omega) h hG hu hl
    | none =>
      rw [hf] at st hl
      rw [if_pos (show (none : Option Nat).isNone = true from rfl)] at hl ⊢
      rw [if_neg (show ¬ (0 : Int32) ≤ oJ (st0 1) none by decide)] at st
      have hm := kp_mono (gs.drop (e + 1)) (cs ++ [gs[e]])
      rw [List.length_append, List.length_singleton] at hm
      obtain ⟨S1, g1, g2, g3, g4, g5, g6⟩ := c_kp_step h hG hel (by omega)
      obtain ⟨S2, k1, k2, k3⟩ := ih (e + 1) (cs ++ [gs[e]]) _ (some (.int (nI (oid gs[e].1 gs[e].2)))) v4 v5 (by omega) g4 g5 (uniq_snoc hu hf) hl
      refine ⟨S2, ?_, k2, g6.tr k3⟩
      rw [st, ← k1, ← nx]
      have r0 := fun (K : Value → Option (Option Value × vH)) => g251 (K := K) hL (show 1 < 2 by omega)
      have r1 := fun (K : Value → Option (Option Value × vH)) => ga (S := S1) (i := 1) (K := K) (a := 251) rfl g2 (show 1 < 2 by omega) (by omega)
      have w1 := fun (x : Int32) (K2 : vH → Option (Option Value × vH)) => w251 (S := S1) (x := x) (K2 := K2) g2
      rw [n1] at r0 r1
      have i16 : ∀ x : Nat, (16 : Int32) + nI x = nI (16 + x) := fun x => nI_add 16 x
      simp only [s67_177, s67_178, s67_180, s67_181, s67_182, s67_184, s67_185, s67_188, s67_189, s67_190, s67_191, s67_194, s67_195, s67_198, s67_199, s67_200, s67_203, s67_204, s67_205, s67_206, s67_207, q2, r0, hC.2.1, i40, i16, List.length_cons, List.length_nil, Nat.reduceAdd, Nat.reduceLeDiff, Nat.zero_le, tq, g1, vbind_some, vpush_none, r1, g3, nI_1, w1]
theorem w_receive {S : vSt} {cs : List Obj} (h : ModIs S (bs, os, cs, rf, wn, hv)) (u1 : Uniq cs) : RMeth S 67 [] (rcv bs cs).1 (bs, os, (rcv bs cs).2, rf, wn, hv) := by
  have h0 := h
  obtain ⟨h1, h2, h3, h4, h5, h6, h7, h8, h9, h10, h11, h12⟩ := h
  simp only at h2 h3 h4 h5 h6 h7 h8 h9 h10 h11 h12
  have tq := qt (S := S)
  have hcl := h6.2.2.1
  have hc1 : cap0 1 = 24 := rfl
  obtain ⟨S1, F1, m1⟩ := c_rdPack h4 h3 h1 h2
  obtain ⟨M1, A1⟩ := F1.mod h0
  unfold rcv
  cases hr : rdPack bs with
  | inl f =>
    rw [hr] at m1
    obtain ⟨c1, c2⟩ := m1
    refine ⟨S1, ?_, M1, A1⟩
    show runv 67 0 [some (.ref 249), none, none, none, none, none] [] (hp S) = _
    simp only [s67_0, s67_1, s67_4, s67_7, s67_8, s67_9, s67_12, s67_13, q18, c2, List.length_cons, List.length_nil, Nat.reduceAdd, Nat.reduceLeDiff, Nat.zero_le, tq, c1, vbind_some, vpush_some]
    rw [if_pos trivial]
  | inr es =>
    rw [hr] at m1
    obtain ⟨c1, c2, c3, c4⟩ := m1
    have tq1 := qt (S := S1)
    have L1 := F1.len h1
    have C1 : SideIs S1 1 cs := M1.2.2.2.2.2.1
    obtain ⟨S2, d1, F2, d3⟩ := c_rworkOut c4 u1 L1 c2 c3 C1
    obtain ⟨M2, A2⟩ := F2.mod M1
    have A12 := A1.tr A2
    have tq2 := qt (S := S2)
    have wl : (wkOut cs es).length = es.length := by
      unfold wkOut
      rw [wkLp_len, List.length_map]
    simp only
    by_cases hall : rdy (wkOut cs es) = es.length
    · rw [if_pos hall]
      rw [decide_eq_true hall] at d1
      obtain ⟨G2, gl⟩ := d3.got (by rw [wl]; exact hall) (by omega) (by rw [F2.1, wl]; exact c3)
      generalize (wkOut cs es).filterMap id = gs at G2 gl
      have L2 := F2.len L1
      have C2 : SideIs S2 1 cs := M2.2.2.2.2.2.1
      obtain ⟨sb, s1, s2⟩ := c_rsound L2 G2 C2 u1
      by_cases hs : sndF cs gs 0
      · rw [if_pos hs]
        have hsb := s1.mpr hs
        subst hsb
        obtain ⟨x2, x3, x4, x5, n1⟩ := c_new L2 G2 C2 u1 gs.length 0 0 none none none (by omega) (by omega)
        rw [List.take_zero, List.drop_zero, Nat.zero_add] at n1
        have hnl := newF_le cs gs []
        have e0 : (nI 0 : Int32) = 0 := rfl
        rw [e0] at n1
        have r0 := fun (K : Value → Option (Option Value × vH)) => g251 (K := K) L2 (show 1 < 2 by omega)
        have e1 : (nI 1 : Int32) = 1 := rfl
        rw [e1] at r0
        have st : callv 67 [.ref 249] (hp S) = if nI (cs.length + newF cs [] gs) ≤ 24 then runv 67 149 [some (.ref 249), some (.int (nI (newF cs [] gs))), x2, x3, x4, x5] [] (hp S2) else some (some (.int (-1002)), hp S2) := by
          show runv 67 0 [some (.ref 249), none, none, none, none, none] [] (hp S) = _
          simp only [s67_0, s67_1, s67_4, s67_7, s67_8, s67_9, s67_12, s67_13, s67_14, s67_15, s67_18, s67_21, s67_24, s67_25, s67_26, s67_29, s67_32, s67_35, s67_36, s67_37, s67_38, s67_39, List.length_cons, List.length_nil, Nat.reduceAdd, Nat.reduceLeDiff, Nat.zero_le, tq, tq1, tq2, c1, d1, s2, vbind_some, vpush_some, if_bI]
          rw [if_neg (show ¬ (1 : Int32) = 0 by decide), if_pos trivial, if_pos trivial, n1]
          simp only [s67_132, s67_133, s67_136, s67_137, s67_138, s67_139, s67_140, s67_142, s67_145, s67_148, q2, r0, C2.2.1, nI_add]
        have h16 := G2.2.1
        by_cases hq : newF cs [] gs ≤ 24 - cs.length
        · rw [if_pos hq]
          rw [if_pos (show nI (cs.length + newF cs [] gs) ≤ 24 from nI_le (b := 24) (by omega) (by omega))] at st
          have hkl := kp_len cs gs
          obtain ⟨S3, k1, k2, k3⟩ := c_kp_loop (fr := nI (newF cs [] gs)) gs.length 0 cs S2 x3 x4 x5 (by omega) M2 G2 u1 (by rw [List.drop_zero, hkl]; omega)
          rw [List.drop_zero] at k2
          rw [e0] at k1
          refine ⟨S3, ?_, k2, A12.tr k3⟩
          rw [st, ← k1]
          simp only [s67_149, s67_150]
        · rw [if_neg hq]
          rw [if_neg (show ¬ nI (cs.length + newF cs [] gs) ≤ 24 from nI_ge (a := 24) (by omega) (by omega))] at st
          exact ⟨S2, st, M2, A12⟩
      · rw [if_neg hs]
        have hsb : sb = false := by
          cases sb with
          | false => rfl
          | true => exact absurd (s1.mp rfl) hs
        subst hsb
        refine ⟨S2, ?_, M2, A12⟩
        show runv 67 0 [some (.ref 249), none, none, none, none, none] [] (hp S) = _
        simp only [s67_0, s67_1, s67_4, s67_7, s67_8, s67_9, s67_12, s67_13, s67_14, s67_15, s67_18, s67_21, s67_24, s67_25, s67_26, s67_29, s67_32, s67_35, List.length_cons, List.length_nil, Nat.reduceAdd, Nat.reduceLeDiff, Nat.zero_le, tq, tq1, tq2, c1, d1, s2, vbind_some, vpush_some, if_bI]
        rw [if_neg (show ¬ (1 : Int32) = 0 by decide), if_pos trivial, if_neg (by decide)]
    · rw [if_neg hall]
      rw [decide_eq_false hall] at d1
      refine ⟨S2, ?_, M2, A12⟩
      show runv 67 0 [some (.ref 249), none, none, none, none, none] [] (hp S) = _
      simp only [s67_0, s67_1, s67_4, s67_7, s67_8, s67_9, s67_12, s67_13, s67_14, s67_15, s67_18, s67_21, s67_24, List.length_cons, List.length_nil, Nat.reduceAdd, Nat.reduceLeDiff, Nat.zero_le, tq, tq1, c1, d1, vbind_some, vpush_some, if_bI]
      rw [if_neg (show ¬ (1 : Int32) = 0 by decide), if_neg (by decide)]
end REF33
