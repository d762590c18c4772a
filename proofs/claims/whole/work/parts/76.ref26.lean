/-! the reference: reading, the whole pack -/
theorem rdRuns_pos {bs : List Nat} : ∀ n left p (ts us : List Nat) p1, left < n → p ≤ bs.length → rdRuns bs n left p ts = .inr (us, p1) → p ≤ p1 ∧ p1 ≤ bs.length ∧ us.length = ts.length + left := by
  intro n
  induction n with
  | zero => intro left p ts us p1 h; omega
  | succ n ih =>
    intro left p ts us p1 hn hp0 h
    unfold rdRuns at h
    by_cases h0 : left = 0
    · rw [if_pos h0] at h
      injection h with h
      injection h with h1 h2
      subst h1; subst h2
      exact ⟨Nat.le_refl _, hp0, by omega⟩
    · rw [if_neg h0] at h
      by_cases h1 : p < bs.length
      · rw [if_pos h1] at h
        have hrn : 1 ≤ runN (bs.getD p 0) := by unfold runN; split <;> omega
        by_cases h2 : left < runN (bs.getD p 0)
        · rw [if_pos h2] at h; cases h
        · rw [if_neg h2] at h
          by_cases h3 : bs.getD p 0 < 128
          · rw [if_pos h3] at h
            by_cases h4 : p + 1 + runN (bs.getD p 0) ≤ bs.length
            · rw [if_pos h4] at h
              have := ih _ _ _ _ _ (by omega) h4 h
              rw [List.length_append, List.length_take, List.length_drop] at this
              omega
            · rw [if_neg h4] at h; cases h
          · rw [if_neg h3] at h
            by_cases h4 : p + 1 + 1 ≤ bs.length
            · rw [if_pos h4] at h
              have := ih _ _ _ _ _ (by omega) h4 h
              rw [List.length_append, List.length_replicate] at this
              omega
            · rw [if_neg h4] at h; cases h
      · rw [if_neg h1] at h; cases h
theorem rdBase_pos {bs hs : List Nat} {hd s p b p1 : Nat} (hp0 : p ≤ bs.length) (h : rdBase bs hs hd s p = .inr (b, p1)) : p ≤ p1 ∧ p1 ≤ bs.length := by
  unfold rdBase at h
  by_cases h0 : s ≤ 3
  · rw [if_pos h0] at h
    injection h with h
    injection h with h1 h2
    omega
  · rw [if_neg h0] at h
    by_cases h1 : p < bs.length
    · rw [if_pos h1] at h
      by_cases h2 : p + 1 < bs.length
      · rw [if_pos h2] at h
        by_cases h3 : s = 7
        · rw [if_pos h3] at h
          injection h with h
          injection h with h1 h2
          omega
        · rw [if_neg h3] at h
          split at h
          · injection h with h
            injection h with h1 h2
            omega
          · cases h
      · rw [if_neg h2] at h; cases h
    · rw [if_neg h1] at h; cases h
def REnt (S : vSt) (i : Nat) (en : Ent) : Prop := (S.2 260).getD i 0 = nI en.1 ∧ (S.2 262).getD i 0 = nI en.2.1 ∧ (S.2 263).getD i 0 = nI en.2.2.1 ∧ (3 < en.2.1 → (S.2 264).getD i 0 = nI en.2.2.2.1) ∧ EB S i en.2.2.2.2
theorem REnt.fr {S S1 : vSt} {e i : Nat} {en : Ent} (h : REnt S i en) (hF : RF e S S1) (hi : i < e) (hl : en.2.2.2.2.length ≤ 256) : REnt S1 i en := by
  obtain ⟨h1, h2, h3, h4, h5⟩ := h
  exact ⟨by rw [hF.2.2.2.1 _ _ (by omega) hi]; exact h1, by rw [hF.2.2.2.1 _ _ (by omega) hi]; exact h2, by rw [hF.2.2.2.1 _ _ (by omega) hi]; exact h3, fun q => by rw [hF.2.2.2.1 _ _ (by omega) hi]; exact h4 q, fun j hj => by rw [hF.2.2.2.2 _ (by omega)]; exact h5 j hj⟩
def REnts (S : vSt) (es : List Ent) : Prop := ∀ i en, es[i]? = some en → REnt S i en ∧ EntOk i en
section REF26
variable {bs : List Nat}
theorem c_rEnts_loop {N : Nat} (bb : ∀ x ∈ bs, x < 256) (hb5 : bs.length ≤ 500) (hN : N ≤ 16) : ∀ k (es : List Ent) p S, es.length + k = N → RLen S → SqIs S 1 250 640 bs → S.1 249 18 = nI p → S.1 249 19 = nI N → p ≤ bs.length → REnts S es → (es.map (fun e => e.1)).Nodup → (∀ h ∈ es.map (fun e => e.1), h < p) → ∃ S1, RF 0 S S1 ∧ S1.1 249 19 = nI N ∧ match rdEnts bs k es p with
    | .inl f => runv 61 77 [some (.ref 249), some (.int (nI es.length))] [] (hp S) = some (some (.int 0), hp S1) ∧ S1.1 249 18 = nI f
    | .inr (es', p1) => runv 61 77 [some (.ref 249), some (.int (nI es.length))] [] (hp S) = runv 61 117 [some (.ref 249), some (.int (nI N))] [] (hp S1) ∧ S1.1 249 18 = nI p1 ∧ p1 ≤ bs.length ∧ REnts S1 es' ∧ es'.length = N := by
  intro k
  induction k with
  | zero =>
    intro es p S hk hL hT ha hn hp0 hE hnd hlt
    have : es.length = N := by omega
    refine ⟨S, RF.rf, hn, ?_, ha, hp0, hE, this⟩
    rw [s61_77, this]
    simp only [s61_78, s61_79, s61_82, q19, hn]
    rw [if_pos (nI_le (Nat.le_refl _) (by omega))]
  | succ k ih =>
    intro es p S hk hL hT ha hn hp0 hE hnd hlt
    have he : es.length < 16 := by omega
    have tq := qt (S := S)
    have ml : (es.map (fun e => e.1)).length = es.length := List.length_map ..
    have nn : ¬ nI N ≤ nI es.length := nI_ge (by omega) (by omega)
    have st : runv 61 77 [some (.ref 249), some (.int (nI es.length))] [] (hp S) = vbind (callv 58 [.ref 249, .int (nI es.length)] (hp S)) (fun v h' => runv 61 90 [some (.ref 249), some (.int (nI es.length))] (vpush v []) h') := by
      rw [s61_77]
      simp only [s61_78, s61_79, s61_82, s61_85, s61_86, s61_87, q19, hn, if_neg nn, List.length_cons, List.length_nil, Nat.reduceAdd, Nat.reduceLeDiff, Nat.zero_le, tq]
    unfold rdEnts rdEnt
    obtain ⟨S1, F1, m1⟩ := c_rdHead hL hT bb ha hp0 hb5 he
    have g19a : S1.1 249 19 = nI N := by rw [F1.1 _ _ (by omega)]; exact hn
    cases hh : rdHead bs p with
    | inl f =>
      rw [hh] at m1
      obtain ⟨c1, c2⟩ := m1
      refine ⟨S1, F1.le (Nat.zero_le _), g19a, ?_, c2⟩
      rw [st, c1]
      simp only [vbind_some, vpush_some, s61_90, s61_109, s61_110, vb0]
      rw [if_pos trivial]
    | inr q =>
      obtain ⟨s, z, p1⟩ := q
      rw [hh] at m1
      obtain ⟨c1, c2, c3, c4, c5⟩ := m1
      obtain ⟨o1, o2, o3, o4, o5⟩ := rdHead_ok bb hh
      have L1 := F1.len hL
      have T1 := F1.seq (by omega) (by omega) hT
      have tq1 := qt (S := S1)
      simp only
      obtain ⟨S2, F2, e260, e262, e263, m2⟩ := c_rdBase (hs := es.map (fun e => e.1)) (hd := p) (s := s) L1 T1 bb c2 o5 hb5 he ml (fun i hi => by
        rw [F1.2.2.2.1 _ _ (by omega) hi, (hE i _ (List.getElem?_eq_getElem hi)).1.1, List.getD_eq_getElem?_getD, List.getElem?_map, List.getElem?_eq_getElem hi]
        rfl) c3 c4 o1 hnd (fun h hh2 => by have := hlt h hh2; omega) (by omega)
      have g19b : S2.1 249 19 = nI N := by rw [F2.1 _ _ (by omega)]; exact g19a
      cases hb : rdBase bs (es.map (fun e => e.1)) p s p1 with
      | inl f =>
        rw [hb] at m2
        obtain ⟨d1, d2⟩ := m2
        refine ⟨S2, (F1.tr F2).le (Nat.zero_le _), g19b, ?_, d2⟩
        rw [st, c1]
        simp only [vbind_some, vpush_some, s61_90, s61_93, s61_94, s61_95, s61_98, s61_109, s61_110, List.length_cons, List.length_nil, Nat.reduceAdd, Nat.reduceLeDiff, Nat.zero_le, tq1, d1, vb0]
        rw [if_neg (show ¬ (1 : Int32) = 0 by decide), if_pos trivial]
      | inr q =>
        obtain ⟨b, p2⟩ := q
        rw [hb] at m2
        obtain ⟨d1, d2, d3⟩ := m2
        obtain ⟨w1, w2, w3⟩ := rdBase_ok bb o5 (by omega) hb
        obtain ⟨x1, x2⟩ := rdBase_pos o5 hb
        have F12 := F1.tr F2
        have L2 := F12.len hL
        have T2 := F12.seq (by omega) (by omega) hT
        have tq2 := qt (S := S2)
        simp only
        obtain ⟨S3, F3, m3⟩ := c_rdRuns (e := es.length) (z := z) bb hb5 he o3 L2 T2 (by rw [e263]; exact c5) d2 x2
        have g19c : S3.1 249 19 = nI N := by rw [F3.1.1 _ _ (by omega)]; exact g19b
        have F13 := F12.tr F3.1
        cases hr : rdRuns bs (z + 1) z p2 [] with
        | inl f =>
          rw [hr] at m3
          obtain ⟨y1, y2⟩ := m3
          refine ⟨S3, F13.le (Nat.zero_le _), g19c, ?_, y2⟩
          rw [st, c1]
          simp only [vbind_some, vpush_some, s61_90, s61_93, s61_94, s61_95, s61_98, s61_101, s61_102, s61_103, s61_106, s61_109, s61_110, List.length_cons, List.length_nil, Nat.reduceAdd, Nat.reduceLeDiff, Nat.zero_le, tq1, tq2, d1, y1, vb0]
          rw [if_neg (show ¬ (1 : Int32) = 0 by decide), if_neg (show ¬ (1 : Int32) = 0 by decide), if_pos trivial]
        | inr q =>
          obtain ⟨us, p3⟩ := q
          rw [hr] at m3
          obtain ⟨y1, y2, y3⟩ := m3
          obtain ⟨u1, u2, u3⟩ := rdRuns_pos _ _ _ _ _ _ (by omega) x2 hr
          have u4 := rdRuns_ok bb _ _ _ _ _ _ (fun x hx => by cases hx) hr
          rw [List.length_nil, Nat.zero_add] at u3
          simp only
          have E3 : REnts S3 (es ++ [(p, s, z, b, us)]) := by
            intro i en hi
            by_cases q : i < es.length
            · rw [List.getElem?_append_left q] at hi
              obtain ⟨v1, v2⟩ := hE i en hi
              exact ⟨v1.fr F13 q (by rw [v2.2.2.1]; have := v2.2.2.2.2.1; omega), v2⟩
            · have hi2 : i = es.length := by
                have := (List.getElem?_eq_some_iff.mp hi).1
                rw [List.length_append, List.length_singleton] at this
                omega
              subst hi2
              rw [List.getElem?_append_right (Nat.le_refl _), Nat.sub_self] at hi
              injection hi with hi
              subst hi
              refine ⟨⟨?_, ?_, ?_, fun q => ?_, y3⟩, ?_⟩
              · rw [F3.2 _ (by omega), e260]; exact c3
              · rw [F3.2 _ (by omega), e262]; exact c4
              · rw [F3.2 _ (by omega), e263]; exact c5
              · rw [F3.2 _ (by omega)]; exact d3 q
              · exact ⟨by show p ≤ 500; omega, o1, u3, o2, o3, u4, fun q => by have := w3 q; rw [ml] at this; exact this, w2⟩
          have nd : ((es ++ [(p, s, z, b, us)]).map (fun e => e.1)).Nodup := by
            rw [List.map_append, List.nodup_append]
            refine ⟨hnd, by simp, ?_⟩
            intro x hx y hy e
            have hy : y = p := by simpa using hy
            subst hy
            have := hlt x hx
            omega
          obtain ⟨S4, j1, j2, j3⟩ := ih (es ++ [(p, s, z, b, us)]) p3 S3 (by rw [List.length_append, List.length_singleton]; omega) (F13.len hL) (F13.seq (by omega) (by omega) hT) y2 g19c u2 E3 nd (fun h hh2 => by
            rw [List.map_append] at hh2
            rcases List.mem_append.mp hh2 with q | q
            · have := hlt h q; omega
            · have hy : h = p := by simpa using q
              omega)
          have st3 : runv 61 77 [some (.ref 249), some (.int (nI es.length))] [] (hp S) = runv 61 77 [some (.ref 249), some (.int (nI (es ++ [(p, s, z, b, us)]).length))] [] (hp S3) := by
            rw [st, c1, List.length_append, List.length_singleton]
            simp only [vbind_some, vpush_some, s61_90, s61_93, s61_94, s61_95, s61_98, s61_101, s61_102, s61_103, s61_106, s61_109, s61_110, s61_111, s61_114, List.length_cons, List.length_nil, Nat.reduceAdd, Nat.reduceLeDiff, Nat.zero_le, tq1, tq2, d1, y1, nI_1]
            rw [if_neg (show ¬ (1 : Int32) = 0 by decide), if_neg (show ¬ (1 : Int32) = 0 by decide), if_neg (show ¬ (1 : Int32) = 0 by decide)]
          refine ⟨S4, (F13.le (Nat.zero_le _)).tr j1, j2, ?_⟩
          rw [st3]
          exact j3
/-- only these may differ after reading -/
def RD (S S1 : vSt) : Prop := (∀ b j, ¬ (b = 249 ∧ (j = 18 ∨ j = 19)) → S1.1 b j = S.1 b j) ∧ (∀ b, b ≠ 260 → b ≠ 262 → b ≠ 263 → b ≠ 264 → b ≠ 265 → S1.2 b = S.2 b) ∧ ∀ b, (S1.2 b).length = (S.2 b).length
theorem RF.d {e : Nat} {S S1 : vSt} (h : RF e S S1) : RD S S1 := ⟨fun b j q => h.1 b j (fun z => q ⟨z.1, Or.inl z.2⟩), h.2.1, h.2.2.1⟩
theorem RD.tr {S S1 S2 : vSt} (h : RD S S1) (g : RD S1 S2) : RD S S2 := ⟨fun b j q => (g.1 b j q).trans (h.1 b j q), fun b q1 q2 q3 q4 q5 => (g.2.1 b q1 q2 q3 q4 q5).trans (h.2.1 b q1 q2 q3 q4 q5), fun b => (g.2.2 b).trans (h.2.2 b)⟩
theorem RD.len {S S1 : vSt} (h : RD S S1) (hL : RLen S) : RLen S1 := hL.of h.2.2
theorem RD.seq {S S1 : vSt} (h : RD S S1) {k2 a2 N : Nat} {ds : List Nat} (h1 : k2 ≠ 18 ∧ k2 ≠ 19) (h2 : a2 < 260) (hS : SqIs S k2 a2 N ds) : SqIs S1 k2 a2 N ds := by
  have e2 : S1.2 a2 = S.2 a2 := h.2.1 _ (by omega) (by omega) (by omega) (by omega) (by omega)
  exact ⟨by rw [h.1 _ _ (by omega)]; exact hS.1, by rw [e2]; exact hS.2.1, by rw [e2]; exact hS.2.2.1, hS.2.2.2⟩
theorem RD.f19 {S : vSt} {x : Int32} : RD S (fu S 249 19 x) := ⟨fun b j q => by
  by_cases z : b = 249
  · exact fu_k _ _ (fun w => q ⟨z, Or.inr w⟩)
  · exact fu_a _ _ z, fun _ _ _ _ _ _ => rfl, fun _ => rfl⟩
theorem RD.mod {S S1 : vSt} (h : RD S S1) {m : Mst} (hM : ModIs S m) : ModIs S1 m ∧ Agr S S1 0 249 := by
  obtain ⟨h1, h2, h3, h4, h5, h6, h7, h8, h9, h10, h11, h12⟩ := hM
  have n2 : ∀ a, a < 260 → S1.2 a = S.2 a := fun a ha => h.2.1 a (by omega) (by omega) (by omega) (by omega) (by omega)
  have n1 : ∀ j, j < 18 → S1.1 249 j = S.1 249 j := fun j hj => h.1 249 j (by omega)
  refine ⟨⟨h.len h1, h.seq (by omega) (by omega) h2, h3, h4, h5.of (n2 _ (by omega)) (n2 _ (by omega)) (n2 _ (by omega)) (n2 _ (by omega)), h6.of (n2 _ (by omega)) (n2 _ (by omega)) (n2 _ (by omega)) (n2 _ (by omega)), by rw [n2 _ (by omega)]; exact h7, fun i hi => by rw [n2 _ (by omega)]; exact h8 i hi, by rw [n1 _ (by omega)]; exact h9, by rw [n1 _ (by omega)]; exact h10, h11, by rw [n2 _ (by omega)]; exact h12⟩, fun b _ hb => ⟨fun j => h.1 b j (by omega), n2 b (by omega)⟩⟩
theorem lk_eq {p : Nat} {x : Nat} (bb : ∀ x ∈ bs, x < 256) (hx : x < 256) : lk bs p = nI x ↔ bs[p]? = some x := by
  unfold lk
  by_cases h : p < bs.length
  · have hy := getD_lt bb p
    rw [if_pos h, nI_eq (by omega) (by omega), List.getD_eq_getElem?_getD, List.getElem?_eq_getElem h]
    exact ⟨fun q => congrArg some q, fun q => Option.some.inj q⟩
  · rw [if_neg h, List.getElem?_eq_none (by omega)]
    constructor
    · intro q
      have := nI_pos (n := x) (by omega)
      rw [← q] at this
      exact absurd (show (-1 : Int32) < 0 by decide) this
    · intro q; cases q
theorem c_rdPack {S : vSt} (bb : ∀ x ∈ bs, x < 256) (hb5 : bs.length ≤ 500) (hL : RLen S) (hT : SqIs S 1 250 640 bs) : ∃ S1, RD S S1 ∧ match rdPack bs with
    | .inl f => callv 61 [.ref 249] (hp S) = some (some (.int 0), hp S1) ∧ S1.1 249 18 = nI f
    | .inr es => callv 61 [.ref 249] (hp S) = some (some (.int 1), hp S1) ∧ REnts S1 es ∧ S1.1 249 19 = nI es.length ∧ es.length ≤ 16 := by
  let Sa := fu S 249 18 (nI 0)
  have e18 : ∀ (K2 : vH → Option (Option Value × vH)), vpf (hp S) 249 9 18 (.int 0) K2 = K2 (hp Sa) := fun K2 => q18p
  have Fa : RD S Sa := (RF.f18 (e := 0)).d
  have Ta := Fa.seq (by omega) (by omega) hT
  have a0 : Sa.1 249 18 = nI 0 := fu_at S 249 18 (nI 0)
  have tqa := qt (S := Sa)
  have k0 := c_look (p := 0) Ta a0 (by omega)
  have i80 := lk_eq (p := 0) (x := 80) bb (by omega)
  unfold rdPack
  -- a step: look, compare, go on
  have stp : ∀ (T : vSt) (p : Nat) (b : Bool), T.1 249 18 = nI p → callv 57 [.ref 249, .int (bI b)] (hp T) = some (some (.int (bI b)), hp (fu T 249 18 (nI (if b = true then p + 1 else p)))) := fun T p b h => c_on b h
  by_cases c0 : bs[0]? = some 80
  · rw [if_pos c0]
    have hl0 := i80.mpr c0
    rw [hl0] at k0
    let Sb := fu Sa 249 18 (nI 1)
    have o0 : callv 57 [.ref 249, .int 1] (hp Sa) = some (some (.int (bI true)), hp Sb) := stp Sa 0 true a0
    have Fb : RD S Sb := Fa.tr (RF.f18 (e := 0)).d
    have Tb := Fb.seq (by omega) (by omega) hT
    have a1 : Sb.1 249 18 = nI 1 := fu_at Sa 249 18 (nI 1)
    have tqb := qt (S := Sb)
    have k1 := c_look (p := 1) Tb a1 (by omega)
    have i1 := lk_eq (p := 1) (x := 1) bb (by omega)
    by_cases c1 : bs[1]? = some 1
    · rw [if_pos c1]
      have hl1 := i1.mpr c1
      rw [hl1] at k1
      let Sc := fu Sb 249 18 (nI 2)
      have o1 : callv 57 [.ref 249, .int 1] (hp Sb) = some (some (.int (bI true)), hp Sc) := stp Sb 1 true a1
      have Fc : RD S Sc := Fb.tr (RF.f18 (e := 0)).d
      have Tc := Fc.seq (by omega) (by omega) hT
      have a2 : Sc.1 249 18 = nI 2 := fu_at Sb 249 18 (nI 2)
      have tqc := qt (S := Sc)
      have k2 := c_look (p := 2) Tc a2 (by omega)
      let Sd := fu Sc 249 19 (lk bs 2)
      have e19 : ∀ (K2 : vH → Option (Option Value × vH)), vpf (hp Sc) 249 9 19 (.int (lk bs 2)) K2 = K2 (hp Sd) := fun K2 => q19p
      have Fd : RD S Sd := Fc.tr RD.f19
      have d18 : Sd.1 249 18 = nI 2 := by
        show (fu Sc 249 19 (lk bs 2)).1 249 18 = nI 2
        rw [fu_k _ _ (by omega)]
        exact a2
      have d19 : Sd.1 249 19 = lk bs 2 := fu_at Sc 249 19 (lk bs 2)
      have tqd := qt (S := Sd)
      have nz0 : ¬ (1 : Int32) = 0 := by decide
      have n80 : (nI 80 : Int32) = 80 := rfl
      have n1 : (nI 1 : Int32) = 1 := rfl
      have st : callv 61 [.ref 249] (hp S) = vbind (callv 57 [.ref 249, .int (bI (decide (1 ≤ lk bs 2 ∧ lk bs 2 ≤ 16)))] (hp Sd)) (fun v h' => runv 61 70 [some (.ref 249), none] (vpush v []) h') := by
        show runv 61 0 [some (.ref 249), none] [] (hp S) = _
        rw [n80] at k0
        rw [n1] at k1
        simp only [s61_0, s61_1, s61_2, s61_5, s61_6, s61_7, s61_10, s61_12, s61_15, s61_16, s61_19, s61_20, s61_23, s61_26, s61_27, s61_28, s61_31, s61_32, s61_35, s61_36, s61_39, s61_40, s61_43, s61_46, s61_47, s61_48, s61_49, s61_50, s61_53, s61_56, s61_57, s61_58, s61_61, s61_62, s61_64, s61_67, e18, List.length_cons, List.length_nil, Nat.reduceAdd, Nat.reduceLeDiff, Nat.zero_le, tqa, tqb, tqc, tqd, k0, k1, k2, o0, o1, e19, q19, d19, c_in, vbind_some, vpush_some, if_bI]
        rw [if_pos trivial, if_pos trivial, if_pos trivial, if_pos trivial]
      have hlk : (1 ≤ lk bs 2 ∧ lk bs 2 ≤ 16) ↔ (2 < bs.length ∧ 1 ≤ bs.getD 2 0 ∧ bs.getD 2 0 ≤ 16) := by
        by_cases h : 2 < bs.length
        · have hy := getD_lt bb 2
          rw [lk_in h]
          exact ⟨fun q => ⟨h, (nI_leI (a := 1) (by omega) (by omega)).mp q.1, (nI_leI (b := 16) (by omega) (by omega)).mp q.2⟩, fun q => ⟨(nI_leI (a := 1) (by omega) (by omega)).mpr q.2.1, (nI_leI (b := 16) (by omega) (by omega)).mpr q.2.2⟩⟩
        · rw [lk_out h]
          exact ⟨fun q => absurd q.1 (by decide), fun q => absurd q.1 h⟩
      rw [st, stp Sd 2 _ d18]
      by_cases c2 : 2 < bs.length ∧ 1 ≤ bs.getD 2 0 ∧ bs.getD 2 0 ≤ 16
      · rw [if_pos c2, decide_eq_true (hlk.mpr c2)]
        let Se := fu Sd 249 18 (nI 3)
        have Fe : RD S Se := Fd.tr (RF.f18 (e := 0)).d
        have Te := Fe.seq (by omega) (by omega) hT
        have e3 : Se.1 249 18 = nI 3 := fu_at Sd 249 18 (nI 3)
        have e19' : Se.1 249 19 = nI (bs.getD 2 0) := by
          show (fu Sd 249 18 (nI 3)).1 249 19 = _
          rw [fu_k _ _ (by omega), d19, lk_in c2.1]
        obtain ⟨S1, F1, g19, m⟩ := c_rEnts_loop bb hb5 c2.2.2 (bs.getD 2 0) [] 3 Se (by simp) (Fe.len hL) Te e3 e19' (by omega) (fun i en hi => by simp at hi) (by simp) (fun h hh => by simp at hh)
        have z0 : (nI ([] : List Ent).length : Int32) = 0 := rfl
        rw [z0] at m
        have st2 : vbind (some (some (Value.int (bI true)), hp (fu Sd 249 18 (nI (if true = true then 2 + 1 else 2))))) (fun v h' => runv 61 70 [some (.ref 249), none] (vpush v []) h') = runv 61 77 [some (.ref 249), some (.int 0)] [] (hp Se) := by
          simp only [vbind_some, vpush_some, s61_70, s61_73, s61_74, s61_75, s61_76, if_bI]
          rw [if_pos trivial]
          rfl
        rw [st2]
        cases hr : rdEnts bs (bs.getD 2 0) [] 3 with
        | inl f =>
          rw [hr] at m
          exact ⟨S1, Fe.tr F1.d, m⟩
        | inr q =>
          obtain ⟨es, p⟩ := q
          rw [hr] at m
          obtain ⟨m1, m2, m3, m4, m5⟩ := m
          simp only
          have F2 := Fe.tr F1.d
          have T2 := F2.seq (by omega) (by omega) hT
          have hh := c_hashTo T2 bb (n := p) m3
          have hlt := hashN_lt (h := 7) (bs.take p) (by omega)
          have ck := c_look (p := p) T2 m2 (by omega)
          have tq1 := qt (S := S1)
          have e0 : ¬ (256 : Int32) = 0 := by decide
          have mq : nI (hashN 7 (bs.take p)) / 256 = nI (hashN 7 (bs.take p) / 256) := pk_div (d := 256) (by omega) (by omega) (by omega)
          have mr : nI (hashN 7 (bs.take p)) - nI (hashN 7 (bs.take p) / 256) * 256 = nI (hashN 7 (bs.take p) % 256) := by
            rw [← mq]
            exact pk_rem (d := 256) (by omega) (by omega) (by omega)
          have st3 : runv 61 117 [some (.ref 249), some (.int (nI (bs.getD 2 0)))] [] (hp S1) = vbind (callv 57 [.ref 249, .int (bI (decide (lk bs p = nI (hashN 7 (bs.take p) / 256))))] (hp S1)) (fun v h' => runv 61 147 [some (.ref 249), some (.int (nI (hashN 7 (bs.take p))))] (vpush v []) h') := by
            simp only [s61_117, s61_118, s61_119, s61_122, s61_125, s61_126, s61_127, s61_128, s61_131, s61_132, s61_135, s61_136, s61_139, s61_140, s61_143, s61_144, q18, m2, List.length_cons, List.length_nil, Nat.reduceAdd, Nat.reduceLeDiff, Nat.zero_le, tq1, hh, ck, e0, not_false_eq_true, mq, vbind_some, vpush_some]
            by_cases c : lk bs p = nI (hashN 7 (bs.take p) / 256)
            · rw [if_pos c, decide_eq_true c]; rfl
            · rw [if_neg c, decide_eq_false c]; rfl
          have ih := lk_eq (p := p) (x := hashN 7 (bs.take p) / 256) bb (by omega)
          rw [m1, st3, stp S1 p _ m2]
          by_cases c3 : bs[p]? = some (hashN 7 (bs.take p) / 256)
          · rw [if_pos c3, decide_eq_true (ih.mpr c3)]
            let Sf := fu S1 249 18 (nI (p + 1))
            have Ff : RD S Sf := F2.tr (RF.f18 (e := 0)).d
            have Tf := Ff.seq (by omega) (by omega) hT
            have f18 : Sf.1 249 18 = nI (p + 1) := fu_at S1 249 18 (nI (p + 1))
            have tqf := qt (S := Sf)
            have ck2 := c_look (p := p + 1) Tf f18 (by omega)
            have ih2 := lk_eq (p := p + 1) (x := hashN 7 (bs.take p) % 256) bb (by omega)
            have st4 : vbind (some (some (Value.int (bI true)), hp (fu S1 249 18 (nI (if true = true then p + 1 else p))))) (fun v h' => runv 61 147 [some (.ref 249), some (.int (nI (hashN 7 (bs.take p))))] (vpush v []) h') = vbind (callv 57 [.ref 249, .int (bI (decide (lk bs (p + 1) = nI (hashN 7 (bs.take p) % 256))))] (hp Sf)) (fun v h' => runv 61 171 [some (.ref 249), some (.int (nI (hashN 7 (bs.take p))))] (vpush v []) h') := by
              show vbind (some (some (Value.int (bI true)), hp Sf)) _ = _
              simp only [vbind_some, vpush_some, s61_147, s61_150, s61_151, s61_152, s61_155, s61_156, s61_159, s61_160, s61_163, s61_164, s61_167, s61_168, if_bI, List.length_cons, List.length_nil, Nat.reduceAdd, Nat.reduceLeDiff, Nat.zero_le, tqf, ck2, e0, not_false_eq_true, mr, mq]
              rw [if_pos trivial]
              by_cases c : lk bs (p + 1) = nI (hashN 7 (bs.take p) % 256)
              · rw [if_pos c, decide_eq_true c]; rfl
              · rw [if_neg c, decide_eq_false c]; rfl
            rw [st4, stp Sf (p + 1) _ f18]
            by_cases c4 : bs[p + 1]? = some (hashN 7 (bs.take p) % 256)
            · rw [if_pos c4, decide_eq_true (ih2.mpr c4)]
              let Sg := fu Sf 249 18 (nI (p + 1 + 1))
              have Fg : RD S Sg := Ff.tr (RF.f18 (e := 0)).d
              have Tg := Fg.seq (by omega) (by omega) hT
              have g18 : Sg.1 249 18 = nI (p + 1 + 1) := fu_at Sf 249 18 (nI (p + 1 + 1))
              have hp2 : p + 1 < bs.length := (List.getElem?_eq_some_iff.mp c4).1
              have kk : (nI (p + 1 + 1) = nI bs.length) = (p + 1 + 1 = bs.length) := nI_inj (by omega) (by omega)
              have st5 : vbind (some (some (Value.int (bI true)), hp (fu Sf 249 18 (nI (if true = true then p + 1 + 1 else p + 1))))) (fun v h' => runv 61 171 [some (.ref 249), some (.int (nI (hashN 7 (bs.take p))))] (vpush v []) h') = some (some (.int (bI (decide (p + 1 + 1 = bs.length)))), hp Sg) := by
                show vbind (some (some (Value.int (bI true)), hp Sg)) _ = _
                simp only [vbind_some, vpush_some, s61_171, s61_174, s61_175, s61_178, s61_179, s61_182, s61_185, s61_186, s61_189, s61_190, if_bI, q18, q1, g18, Tg.1, kk, vb0, vb1]
                rw [if_pos trivial]
                by_cases c : p + 1 + 1 = bs.length
                · rw [if_pos c, decide_eq_true c]; rfl
                · rw [if_neg c, decide_eq_false c]; rfl
              rw [st5]
              refine ⟨Sg, Fg, ?_⟩
              by_cases c5 : p + 2 = bs.length
              · rw [if_pos c5, decide_eq_true (show p + 1 + 1 = bs.length by omega)]
                refine ⟨rfl, ?_, ?_, by omega⟩
                · intro i en hi
                  obtain ⟨v1, v2⟩ := m4 i en hi
                  exact ⟨v1, v2⟩
                · show (fu (fu S1 249 18 (nI (p + 1))) 249 18 (nI (p + 1 + 1))).1 249 19 = _
                  rw [fu_k _ _ (by omega), fu_k _ _ (by omega), g19, m5]
              · rw [if_neg c5, decide_eq_false (show ¬ p + 1 + 1 = bs.length by omega)]
                exact ⟨rfl, g18⟩
            · rw [if_neg c4, decide_eq_false (fun q => c4 (ih2.mp q))]
              refine ⟨fu Sf 249 18 (nI (p + 1)), Ff.tr (RF.f18 (e := 0)).d, ?_, fu_at _ _ _ _⟩
              show vbind (some (some (Value.int (bI false)), hp (fu Sf 249 18 (nI (p + 1))))) _ = _
              simp only [vbind_some, vpush_some, s61_171, s61_189, s61_190, if_bI, vb0]
              rw [if_neg (by decide)]
          · rw [if_neg c3, decide_eq_false (fun q => c3 (ih.mp q))]
            refine ⟨fu S1 249 18 (nI p), F2.tr (RF.f18 (e := 0)).d, ?_, fu_at _ _ _ _⟩
            show vbind (some (some (Value.int (bI false)), hp (fu S1 249 18 (nI p)))) _ = _
            simp only [vbind_some, vpush_some, s61_147, s61_189, s61_190, if_bI, vb0]
            rw [if_neg (by decide)]
      · rw [if_neg c2, decide_eq_false (fun q => c2 (hlk.mp q))]
        refine ⟨fu Sd 249 18 (nI 2), Fd.tr (RF.f18 (e := 0)).d, ?_, fu_at _ _ _ _⟩
        show vbind (some (some (Value.int (bI false)), hp (fu Sd 249 18 (nI 2)))) _ = _
        simp only [vbind_some, vpush_some, s61_70, s61_73, s61_74, if_bI, vb0]
        rw [if_neg (by decide)]
    · rw [if_neg c1]
      have hl1 : ¬ lk bs 1 = nI 1 := fun q => c1 (i1.mp q)
      have n1 : (nI 1 : Int32) = 1 := rfl
      have n80 : (nI 80 : Int32) = 80 := rfl
      rw [n1] at hl1
      rw [n80] at k0
      have o1 : callv 57 [.ref 249, .int 0] (hp Sb) = some (some (.int (bI false)), hp (fu Sb 249 18 (nI 1))) := stp Sb 1 false a1
      refine ⟨fu Sb 249 18 (nI 1), Fb.tr (RF.f18 (e := 0)).d, ?_, fu_at _ _ _ _⟩
      show runv 61 0 [some (.ref 249), none] [] (hp S) = _
      simp only [s61_0, s61_1, s61_2, s61_5, s61_6, s61_7, s61_10, s61_12, s61_15, s61_16, s61_19, s61_20, s61_23, s61_26, s61_27, s61_28, s61_31, s61_32, s61_35, s61_36, s61_39, s61_40, s61_43, s61_46, s61_47, e18, List.length_cons, List.length_nil, Nat.reduceAdd, Nat.reduceLeDiff, Nat.zero_le, tqa, tqb, k0, k1, o0, o1, vbind_some, vpush_some, if_bI, if_neg hl1, vb0]
      rw [if_pos trivial, if_pos trivial, if_neg (by decide)]
  · rw [if_neg c0]
    have hl0 : ¬ lk bs 0 = nI 80 := fun q => c0 (i80.mp q)
    have n80 : (nI 80 : Int32) = 80 := rfl
    rw [n80] at hl0
    have o0 : callv 57 [.ref 249, .int 0] (hp Sa) = some (some (.int (bI false)), hp (fu Sa 249 18 (nI 0))) := stp Sa 0 false a0
    refine ⟨fu Sa 249 18 (nI 0), Fa.tr (RF.f18 (e := 0)).d, ?_, fu_at _ _ _ _⟩
    show runv 61 0 [some (.ref 249), none] [] (hp S) = _
    simp only [s61_0, s61_1, s61_2, s61_5, s61_6, s61_7, s61_10, s61_12, s61_15, s61_16, s61_19, s61_20, s61_23, s61_26, s61_27, s61_28, s61_31, s61_32, s61_35, s61_36, s61_39, s61_40, s61_43, s61_46, s61_47, e18, List.length_cons, List.length_nil, Nat.reduceAdd, Nat.reduceLeDiff, Nat.zero_le, tqa, k0, o0, vbind_some, vpush_some, if_bI, if_neg hl0, vb0]
    rw [if_neg (by decide)]
end REF26
