/-! reading packs: all entries -/
def PE (ec : Nat) : Nat → Nat → Prop := fun b j => (b = 151 ∧ (j = 4 ∨ j = 5)) ∨ (b = ec ∧ 2 ≤ j ∧ j ≤ 5) ∨ (b = ec + 1 ∧ j = 1)
def AE (ec : Nat) : Nat → Prop := fun b => b = ec + 2
def PR : Nat → Nat → Prop := fun b j => (b = 151 ∧ 3 ≤ j) ∨ (153 ≤ b ∧ b < 249)
def AR : Nat → Prop := fun b => 153 ≤ b ∧ b < 249
theorem EntIs.fr {S S1 : vSt} {P : Nat → Nat → Prop} {A : Nat → Prop} {e : Nat} {en : Ent} (h : EntIs S e en) (hf : Fr S S1 P A) (h1 : ∀ j, ¬ P (153 + 6 * e) j) (h2 : ¬ P (154 + 6 * e) 1) (h3 : ¬ A (155 + 6 * e)) : EntIs S1 e en := by
  obtain ⟨g1, g2, g3, g4, g5⟩ := h
  exact ⟨by rw [hf.1 _ _ (h1 2), g1], by rw [hf.1 _ _ (h1 3), g2], by rw [hf.1 _ _ (h1 4), g3], fun q => by rw [hf.1 _ _ (h1 5), g4 q], g5.fr hf h2 h3⟩
theorem c_ent {S : vSt} {e n i p : Nat} {bs hs : List Nat} (he : e < 16) (hB : RowIs S 2 3 500 bs) (bb : ∀ x ∈ bs, x < 256) (hl : (S.2 (155 + 6 * e)).length = 255) (hpl : S.1 151 4 = nI p) (hp0 : p ≤ bs.length) (hn : S.1 151 3 = nI hs.length) (h16 : hs.length ≤ 16) (hh : ∀ i, i < hs.length → S.1 (153 + 6 * i) 2 = nI (hs.getD i 0)) (hhb : ∀ h ∈ hs, h ≤ 500) (hle : hs.length = e) : ∃ S1, Fr S S1 (PE (153 + 6 * e)) (AE (153 + 6 * e)) ∧ match rdEnt bs hs p with
    | .inl f => runv 115 22 [some (.ref 151), some (.int (nI n)), some (.int (nI i)), some (.ref (153 + 6 * e))] [] (hp S) = some (some (.int 0), hp S1) ∧ S1.1 151 5 = nI f
    | .inr (en, p1) => runv 115 22 [some (.ref 151), some (.int (nI n)), some (.int (nI i)), some (.ref (153 + 6 * e))] [] (hp S) = runv 115 48 [some (.ref 151), some (.int (nI n)), some (.int (nI i)), some (.ref (153 + 6 * e))] [] (hp S1) ∧ EntIs S1 e en ∧ S1.1 151 4 = nI p1 ∧ p1 ≤ bs.length ∧ EntOk hs.length en := by
  have b5 := hB.2.2.2.2.1
  have hE := isEnt_e he
  generalize hec : 153 + 6 * e = ec at *
  have hec2 : 151 < ec := by omega
  have hE2 : 154 + 6 * e = ec + 1 := by omega
  have hE3 : 155 + 6 * e = ec + 2 := by omega
  rw [hE3] at hl
  have t1 := fun S => rtR (S := S)
  have m1 : ∀ b j, PHd ec b j → PE ec b j := by
    rintro b j (⟨q1, q2⟩ | ⟨q1, q2⟩)
    · exact Or.inl ⟨q1, q2⟩
    · exact Or.inr (Or.inl ⟨q1, by omega, by omega⟩)
  have m2 : ∀ b j, PBs ec b j → PE ec b j := by
    rintro b j (⟨q1, q2⟩ | ⟨q1, q2⟩)
    · exact Or.inl ⟨q1, q2⟩
    · exact Or.inr (Or.inl ⟨q1, by omega, by omega⟩)
  have m3 : ∀ b j, PRn (ec + 1) b j → PE ec b j := by
    rintro b j (⟨q1, q2⟩ | ⟨q1, q2⟩)
    · exact Or.inl ⟨q1, q2⟩
    · exact Or.inr (Or.inr ⟨q1, q2⟩)
  have k16 : runv 115 22 [some (.ref 151), some (.int (nI n)), some (.int (nI i)), some (.ref ec)] [] (hp S) = vbind (callv 116 [.ref 151, .ref ec] (hp S)) (fun v h' => runv 115 27 [some (.ref 151), some (.int (nI n)), some (.int (nI i)), some (.ref ec)] (vpush v []) h') := by
    simp only [s115_22, s115_23, n115_23, s115_24, List.length_cons, List.length_nil, Nat.reduceAdd, Nat.reduceLeDiff, Nat.zero_le, t1]
  have k27 : ∀ S1 : vSt, runv 115 27 [some (.ref 151), some (.int (nI n)), some (.int (nI i)), some (.ref ec)] [.int 0] (hp S1) = some (some (.int 0), hp S1) := fun S1 => by
    rw [s115_27, if_pos rfl, s115_46, s115_47 vb0]
  have k27' : ∀ S1 : vSt, runv 115 27 [some (.ref 151), some (.int (nI n)), some (.int (nI i)), some (.ref ec)] [.int 1] (hp S1) = vbind (callv 117 [.ref 151, .ref ec] (hp S1)) (fun v h' => runv 115 35 [some (.ref 151), some (.int (nI n)), some (.int (nI i)), some (.ref ec)] (vpush v []) h') := fun S1 => by
    rw [s115_27, if_neg (show ¬ (1 : Int32) = 0 by decide)]
    simp only [s115_30, s115_31, n115_31, s115_32, List.length_cons, List.length_nil, Nat.reduceAdd, Nat.reduceLeDiff, Nat.zero_le, t1]
  have k35 : ∀ S1 : vSt, runv 115 35 [some (.ref 151), some (.int (nI n)), some (.int (nI i)), some (.ref ec)] [.int 0] (hp S1) = some (some (.int 0), hp S1) := fun S1 => by
    rw [s115_35, if_pos rfl, s115_46, s115_47 vb0]
  have k35' : ∀ S1 : vSt, runv 115 35 [some (.ref 151), some (.int (nI n)), some (.int (nI i)), some (.ref ec)] [.int 1] (hp S1) = vbind (callv 119 [.ref 151, .ref ec] (hp S1)) (fun v h' => runv 115 43 [some (.ref 151), some (.int (nI n)), some (.int (nI i)), some (.ref ec)] (vpush v []) h') := fun S1 => by
    rw [s115_35, if_neg (show ¬ (1 : Int32) = 0 by decide)]
    simp only [s115_38, s115_39, n115_39, s115_40, List.length_cons, List.length_nil, Nat.reduceAdd, Nat.reduceLeDiff, Nat.zero_le, t1]
  have k43 : ∀ S1 : vSt, runv 115 43 [some (.ref 151), some (.int (nI n)), some (.int (nI i)), some (.ref ec)] [.int 0] (hp S1) = some (some (.int 0), hp S1) := fun S1 => by
    rw [s115_43, if_pos rfl, s115_46, s115_47 vb0]
  have k43' : ∀ S1 : vSt, runv 115 43 [some (.ref 151), some (.int (nI n)), some (.int (nI i)), some (.ref ec)] [.int 1] (hp S1) = runv 115 48 [some (.ref 151), some (.int (nI n)), some (.int (nI i)), some (.ref ec)] [] (hp S1) := fun S1 => by
    rw [s115_43, if_neg (show ¬ (1 : Int32) = 0 by decide)]
  obtain ⟨S1, u1, g1⟩ := c_readHead hE hec2 hB bb hpl (by omega)
  rw [k16]
  unfold rdEnt
  cases hm : rdHead bs p with
  | inl f =>
    rw [hm] at g1
    simp only at g1 ⊢
    refine ⟨S1, u1.fr.mono m1 (fun b q => q), ?_, g1.2⟩
    rw [g1.1, vbind_some, vpush_some, k27]
  | inr q =>
    obtain ⟨s, z, p1⟩ := q
    rw [hm] at g1
    simp only at g1 ⊢
    obtain ⟨c1, c2, c3, c4, c5⟩ := g1
    obtain ⟨o1, o2, o3, o4, o5⟩ := rdHead_ok bb hm
    have hs7 : s ≤ 7 := by unfold knownS at o1; omega
    have hB1 : RowIs S1 2 3 500 bs := hB.upd u1 (by rintro (⟨q, -⟩ | ⟨q, -⟩) <;> omega)
    have hn1 : S1.1 151 3 = nI hs.length := by rw [u1.1 _ _ (by rintro (⟨-, q⟩ | ⟨q, -⟩) <;> omega), hn]
    have hh1 : ∀ i, i < hs.length → S1.1 (153 + 6 * i) 2 = nI (hs.getD i 0) := fun i hi => by rw [u1.1 _ _ (by rintro (⟨q, -⟩ | ⟨q, -⟩) <;> omega), hh i hi]
    obtain ⟨S2, u2, g2⟩ := c_readBase hE hec2 hB1 bb c5 (by omega) c3 hs7 c2 (by omega) hn1 h16 hh1 (fun h q => by have := hhb h q; omega)
    rw [c1, vbind_some, vpush_some, k27']
    cases hm2 : rdBase bs hs p s p1 with
    | inl f =>
      rw [hm2] at g2
      simp only at g2 ⊢
      refine ⟨S2, (u1.fr.mono m1 (fun b q => q)).tr (u2.fr.mono m2 (fun b q => q)), ?_, g2.2⟩
      rw [g2.1, vbind_some, vpush_some, k35]
    | inr q =>
      obtain ⟨b, p2⟩ := q
      rw [hm2] at g2
      simp only at g2 ⊢
      obtain ⟨d1, d2, d3⟩ := g2
      obtain ⟨w1, w2, w3⟩ := rdBase_ok bb o5 h16 hm2
      have hB2 : RowIs S2 2 3 500 bs := hB1.upd u2 (by rintro (⟨q, -⟩ | ⟨q, -⟩) <;> omega)
      have e2 : S2.1 ec 2 = nI p := by rw [u2.1 _ _ (by rintro (⟨q, -⟩ | ⟨-, q⟩) <;> omega), c2]
      have e3 : S2.1 ec 3 = nI s := by rw [u2.1 _ _ (by rintro (⟨q, -⟩ | ⟨-, q⟩) <;> omega), c3]
      have e4 : S2.1 ec 4 = nI z := by rw [u2.1 _ _ (by rintro (⟨q, -⟩ | ⟨-, q⟩) <;> omega), c4]
      have hl2 : (S2.2 (ec + 2)).length = 255 := by rw [u2.2, u1.2, hl]
      obtain ⟨S3, u3, g3⟩ := c_readRuns hE hec2 bb hB2 hl2 e4 o3 d2 w1
      have fin : Fr S S3 (PE ec) (AE ec) := ((u1.fr.mono m1 (fun b q => q)).tr (u2.fr.mono m2 (fun b q => q))).tr (u3.mono m3 (fun b q => q))
      rw [d1, vbind_some, vpush_some, k35']
      cases hm3 : rdRuns bs (z + 1) z p2 [] with
      | inl f =>
        rw [hm3] at g3
        simp only at g3 ⊢
        refine ⟨S3, fin, ?_, g3.2⟩
        rw [g3.1, vbind_some, vpush_some, k43]
      | inr q =>
        obtain ⟨us, p3⟩ := q
        rw [hm3] at g3
        simp only at g3 ⊢
        obtain ⟨f1, f2, f3, f4, f5⟩ := g3
        have np : ∀ j, ¬ PRn (ec + 1) ec j := by rintro j (⟨q, -⟩ | ⟨q, -⟩) <;> omega
        refine ⟨S3, fin, ?_, ⟨?_, ?_, ?_, ?_, ?_⟩, f3, f4, by omega, o1, f5, o2, o3, rdRuns_ok bb _ _ _ _ _ _ (by simp) hm3, w3, w2⟩
        · rw [f1, vbind_some, vpush_some, k43']
        · rw [hec, u3.1 _ _ (np 2), e2]
        · rw [hec, u3.1 _ _ (np 3), e3]
        · rw [hec, u3.1 _ _ (np 4), e4]
        · intro q; rw [hec, u3.1 _ _ (np 5), d3 q]
        · rw [hE2, hE3]; exact f2
def EntsAt (S : vSt) (es : List Ent) : Prop := S.1 151 3 = nI es.length ∧ es.length ≤ 16 ∧ (∀ i en, es[i]? = some en → EntIs S i en) ∧ ∀ i en, es[i]? = some en → EntOk i en
theorem EntsAt.n {S : vSt} {es : List Ent} (h : EntsAt S es) : S.1 151 3 = nI es.length := h.1
theorem EntsAt.le {S : vSt} {es : List Ent} (h : EntsAt S es) : es.length ≤ 16 := h.2.1
theorem EntsAt.is {S : vSt} {es : List Ent} (h : EntsAt S es) : ∀ i en, es[i]? = some en → EntIs S i en := h.2.2.1
theorem EntsAt.ok {S : vSt} {es : List Ent} (h : EntsAt S es) : ∀ i en, es[i]? = some en → EntOk i en := h.2.2.2
theorem c_ents_loop {n : Nat} {bs : List Nat} (bb : ∀ x ∈ bs, x < 256) (hn16 : n ≤ 16) : ∀ k es p S v3, es.length + k = n → RowIs S 2 3 500 bs → S.1 151 4 = nI p → p ≤ bs.length → EntsAt S es → (∀ e, e < 16 → (S.2 (155 + 6 * e)).length = 255) → 0 < n → ∃ S1, Fr S S1 PR AR ∧ match rdEnts bs k es p with
    | .inl f => runv 115 10 [some (.ref 151), some (.int (nI n)), some (.int (nI es.length)), v3] [] (hp S) = some (some (.int 0), hp S1) ∧ S1.1 151 5 = nI f
    | .inr (es', p1) => runv 115 10 [some (.ref 151), some (.int (nI n)), some (.int (nI es.length)), v3] [] (hp S) = some (some (.int 1), hp S1) ∧ EntsAt S1 es' ∧ S1.1 151 4 = nI p1 ∧ p1 ≤ bs.length := by
  intro k
  induction k with
  | zero =>
    intro es p S v3 hk hB hpl hp0 hE hL hn0
    refine ⟨S, Fr.rf, ?_, hE, hpl, hp0⟩
    rw [s115_10]
    simp only [s115_11, s115_12, s115_64, s115_65, s115_68, s115_69, s115_72, s115_73]
    rw [if_pos (nI_le (by omega) (by omega)), if_neg (nI_nle (by omega) (by omega)), s115_73 vb1]
  | succ k ih =>
    intro es p S v3 hk hB hpl hp0 hE hL hn0
    have he : es.length < 16 := by omega
    have b5 := hB.2.2.2.2.1
    have st : runv 115 10 [some (.ref 151), some (.int (nI n)), some (.int (nI es.length)), v3] [] (hp S) = runv 115 22 [some (.ref 151), some (.int (nI n)), some (.int (nI es.length)), some (.ref (153 + 6 * es.length))] [] (hp S) := by
      rw [s115_10]
      simp only [s115_11, s115_12, s115_15, s115_16, s115_19, s115_20, s115_21, n115_21, r2, re_get he]
      rw [if_neg (nI_ge (by omega) (by omega))]
    have hlen : (es.map (fun e => e.1)).length = es.length := List.length_map _
    have hgd : ∀ i, i < es.length → ∃ en, es[i]? = some en ∧ (es.map (fun e => e.1)).getD i 0 = en.1 := fun i hi => by
      refine ⟨es[i], List.getElem?_eq_getElem hi, ?_⟩
      rw [List.getD_eq_getElem?_getD, List.getElem?_map, List.getElem?_eq_getElem hi]
      rfl
    obtain ⟨S1, f1, g1⟩ := c_ent (n := n) (i := es.length) (hs := es.map (fun e => e.1)) he hB bb (hL _ he) hpl hp0 (by rw [hlen, hE.n]) (by omega) (fun i hi => by
      obtain ⟨en, q1, q2⟩ := hgd i (by omega)
      rw [q2, (hE.is i en q1).1]) (fun h q => by
      obtain ⟨en, q1, q2⟩ := List.mem_map.mp q
      obtain ⟨i, hi, q3⟩ := List.mem_iff_getElem.mp q1
      have := (hE.ok i en (by rw [List.getElem?_eq_getElem hi, q3])).1
      omega) hlen
    have mF : ∀ b j, PE (153 + 6 * es.length) b j → PR b j := by
      rintro b j (⟨q1, q2⟩ | ⟨q1, q2⟩ | ⟨q1, q2⟩)
      · exact Or.inl ⟨q1, by omega⟩
      · exact Or.inr (by omega)
      · exact Or.inr (by omega)
    have mA : ∀ b, AE (153 + 6 * es.length) b → AR b := by
      intro b q
      have q : b = 153 + 6 * es.length + 2 := q
      unfold AR; omega
    rw [st]
    unfold rdEnts
    cases hm : rdEnt bs (es.map (fun e => e.1)) p with
    | inl f =>
      rw [hm] at g1
      simp only at g1 ⊢
      exact ⟨S1, f1.mono mF mA, g1.1, g1.2⟩
    | inr q =>
      obtain ⟨en, p1⟩ := q
      rw [hm] at g1
      simp only at g1 ⊢
      obtain ⟨a1, a2, a3, a4, a5⟩ := g1
      rw [hlen] at a5
      have e2 : runv 115 48 [some (.ref 151), some (.int (nI n)), some (.int (nI es.length)), some (.ref (153 + 6 * es.length))] [] (hp S1) = runv 115 10 [some (.ref 151), some (.int (nI n)), some (.int (nI (es ++ [en]).length)), some (.ref (153 + 6 * es.length))] [] (hp (fu S1 151 3 (nI (es.length + 1)))) := by
        have q3 : S1.1 151 3 = nI es.length := by rw [f1.1 _ _ (by rintro (⟨-, q⟩ | ⟨q, -⟩ | ⟨q, -⟩) <;> omega), hE.n]
        simp only [s115_48, s115_49, r115_49, s115_50, s115_53, s115_54, s115_55, s115_58, s115_61, r3, r3p, q3, nI_1]
        rw [List.length_append, List.length_singleton]
      rw [a1, e2]
      have hB2 : RowIs (fu S1 151 3 (nI (es.length + 1))) 2 3 500 bs := (hB.fr f1 (by rintro (⟨q, -⟩ | ⟨q, -⟩ | ⟨q, -⟩) <;> omega) (by intro q; have q : 3 = 153 + 6 * es.length + 2 := q; omega)).fu (by omega)
      have isE : ∀ {i : Nat} {x : Ent}, EntIs S1 i x → EntIs (fu S1 151 3 (nI (es.length + 1))) i x := fun {i x} hq => hq.fr (P := fun b _ => b = 151) (A := fun _ => False) (Fr.fu rfl) (fun j => by omega) (by omega) (fun q => q)
      have hE2 : EntsAt (fu S1 151 3 (nI (es.length + 1))) (es ++ [en]) := by
        refine ⟨by rw [fu_at, List.length_append, List.length_singleton], by rw [List.length_append, List.length_singleton]; omega, ?_, ?_⟩
        · intro i x hx
          by_cases hi : i < es.length
          · rw [List.getElem?_append_left hi] at hx
            refine isE ((hE.is i x hx).fr f1 (fun j => ?_) ?_ ?_)
            · rintro (⟨q, -⟩ | ⟨q, -⟩ | ⟨q, -⟩) <;> omega
            · rintro (⟨q, -⟩ | ⟨q, -⟩ | ⟨q, -⟩) <;> omega
            · intro q; have q : 155 + 6 * i = 153 + 6 * es.length + 2 := q; omega
          · have hlt : i < (es ++ [en]).length := (List.getElem?_eq_some_iff.mp hx).1
            rw [List.length_append, List.length_singleton] at hlt
            have : i = es.length := by omega
            subst this
            rw [List.getElem?_append_right (by omega), Nat.sub_self] at hx
            cases hx
            exact isE a2
        · intro i x hx
          by_cases hi : i < es.length
          · rw [List.getElem?_append_left hi] at hx
            exact hE.ok i x hx
          · have hlt : i < (es ++ [en]).length := (List.getElem?_eq_some_iff.mp hx).1
            rw [List.length_append, List.length_singleton] at hlt
            have : i = es.length := by omega
            subst this
            rw [List.getElem?_append_right (by omega), Nat.sub_self] at hx
            cases hx
            exact a5
      obtain ⟨S2, f2, g2⟩ := ih (es ++ [en]) p1 (fu S1 151 3 (nI (es.length + 1))) (some (.ref (153 + 6 * es.length))) (by rw [List.length_append, List.length_singleton]; omega) hB2 (by rw [fu_k _ _ (by decide), a3]) a4 hE2 (fun e he2 => by
        rw [fu_2]
        by_cases q : e = es.length
        · subst q
          have := (a2.2.2.2.2).2.2.1
          exact this
        · rw [f1.2 _ (by intro z; have z : 155 + 6 * e = 153 + 6 * es.length + 2 := z; omega), hL e he2]) hn0
      exact ⟨S2, ((f1.mono mF mA).tr (Fr.fu (Or.inl ⟨rfl, by omega⟩))).tr f2, g2⟩
