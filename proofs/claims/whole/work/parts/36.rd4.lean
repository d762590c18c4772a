/-! reading packs: lengths stay; entries; all of it -/
def keepL (h h1 : vH) : Prop := ∀ (a : Nat) (c : vC), h[a]? = some c → ∃ d, h1[a]? = some d ∧ d.1 = c.1 ∧ d.2.length = c.2.length
theorem keepL.rf {h : vH} : keepL h h := fun _ c hc => ⟨c, hc, rfl, rfl⟩
theorem keepL.tr {h h1 h2 : vH} (g : keepL h h1) (g2 : keepL h1 h2) : keepL h h2 := by
  intro a c hc
  obtain ⟨d, h3, h4, h5⟩ := g a c hc
  obtain ⟨e, h6, h7, h8⟩ := g2 a d h3
  exact ⟨e, h6, h7.trans h4, h8.trans h5⟩
theorem keepL.set {h : vH} {a t : Nat} {l l1 : List Value} (ha : h[a]? = some (t, l)) (hl : l1.length = l.length) : keepL h (h.set a (t, l1)) := by
  intro b c hc
  by_cases hb : a = b
  · subst hb
    have hlt : a < h.length := (List.getElem?_eq_some_iff.mp ha).1
    rw [ha] at hc
    cases hc
    exact ⟨(t, l1), List.getElem?_set_self hlt, rfl, hl⟩
  · exact ⟨c, by rw [List.getElem?_set_ne hb]; exact hc, rfl, rfl⟩
theorem keepL.push {h : vH} {d : vC} : keepL h (h ++ [d]) := by
  intro b c hc
  have hlt : b < h.length := (List.getElem?_eq_some_iff.mp hc).1
  exact ⟨c, by rw [List.getElem?_append_left hlt]; exact hc, rfl, rfl⟩
theorem vstep_keep {x : vI} {pc : Nat} {ls : vL} {st : List Value} {h : vH} {y : vS} (hs : vstep x pc ls st h = some y) : keepL h y.2.2.2 := by
  obtain ⟨i, len, r1, r2⟩ := x
  have same : ∀ {pc1 : Nat} {ls1 : vL} {st1 : List Value}, some (pc1, ls1, st1, h) = some y → keepL h y.2.2.2 := fun hq => by
    cases hq
    exact keepL.rf
  have jmp : ∀ {off : Int} {r : List Value}, vjump pc off ls r h = some y → keepL h y.2.2.2 := fun hq => by
    obtain ⟨-, rfl⟩ := vjump_some hq
    exact keepL.rf
  have psh : ∀ {pc1 : Nat} {ls1 : vL} {st1 : List Value} {c : vC}, some (pc1, ls1, st1, h ++ [c]) = some y → keepL h y.2.2.2 := fun hq => by
    cases hq
    exact keepL.push
  have sett : ∀ {pc1 : Nat} {ls1 : vL} {st1 : List Value} {a t : Nat} {l l1 : List Value}, h[a]? = some (t, l) → l1.length = l.length → some (pc1, ls1, st1, h.set a (t, l1)) = some y → keepL h y.2.2.2 := fun ha hl hq => by
    cases hq
    exact keepL.set ha hl
  cases i <;> simp only [vstep] at hs <;> first
    | (cases hs; done)
    | exact same hs
    | exact jmp hs
    | exact psh hs
    | (repeat' (split at hs)) <;> first
      | (cases hs; done)
      | exact same hs
      | exact jmp hs
      | exact psh hs
      | exact sett (by assumption) (by simp) hs
      | (rename_i hc; exact sett (by assumption) (by unfold vcpy; simp; omega) hs)
theorem vexec_keep {f mi pc : Nat} {ls : vL} {st : List Value} {h h1 : vH} {v : Option Value} (hs : vexec f mi pc ls st h = some (v, h1)) : keepL h h1 := by
  induction f generalizing mi pc ls st h h1 v with
  | zero => cases hs
  | succ f ih =>
    unfold vexec at hs
    split at hs
    · cases hs
    · rename_i x hx
      split at hs
      · split at hs
        · cases hs
        · rename_i y hy
          exact (vstep_keep hy).tr (ih hs)
      · rw [vretv_h hs]
        exact keepL.rf
      · split at hs
        · cases hs
        · split at hs
          · cases hs
          · rename_i v1 h2 hv1
            exact (ih hv1).tr (ih hs)
theorem len_keep {mi : Nat} {as : List Value} {v : Option Value} {S S1 : vSt} (h : callv mi as (hp S) = some (v, hp S1)) {a : Nat} (ha : sk[a]? = some (100, [])) : (S1.2 a).length = (S.2 a).length := by
  obtain ⟨f, hf⟩ := runv_iff.mp h
  have e1 : (hp S)[a]? = some (100, (S.2 a).map Value.int) := by rw [hp_get, ha]; rfl
  have e2 : (hp S1)[a]? = some (100, (S1.2 a).map Value.int) := by rw [hp_get, ha]; rfl
  obtain ⟨d, g1, g2, g3⟩ := vexec_keep hf a _ e1
  rw [e2] at g1
  cases g1
  simpa using g3
abbrev Ent : Type := Nat × Nat × Nat × Nat × List Nat
theorem c_readRuns {S : vSt} {ec z p : Nat} {bs : List Nat} (he : isEnt ec) (hec : 151 < ec) (bb : ∀ x ∈ bs, x < 256) (hB : RowIs S 2 3 500 bs) (hl : (S.2 (ec + 2)).length = 255) (h4 : S.1 ec 4 = nI z) (hz : z ≤ 255) (hpl : S.1 151 4 = nI p) (hp0 : p ≤ bs.length) : ∃ S1, Fr S S1 (PRn (ec + 1)) (fun b => b = ec + 2) ∧ match rdRuns bs (z + 1) z p [] with
    | .inl f => callv 119 [.ref 151, .ref ec] (hp S) = some (some (.int 0), hp S1) ∧ S1.1 151 5 = nI f
    | .inr (us, p1) => callv 119 [.ref 151, .ref ec] (hp S) = some (some (.int 1), hp S1) ∧ RowIs S1 (ec + 1) (ec + 2) 255 us ∧ S1.1 151 4 = nI p1 ∧ p1 ≤ bs.length ∧ us.length = z := by
  have R1 : PRn (ec + 1) (ec + 1) 1 := Or.inr ⟨rfl, rfl⟩
  have t1 := fun S => rowt (S := S) he.2.1
  have hT0 := row_nil (S := S) he.2.1 hl (by omega)
  have hB0 : RowIs (fu S (ec + 1) 1 0) 2 3 500 bs := hB.fu (by omega)
  have start : callv 119 [.ref 151, .ref ec] (hp S) = runv 119 12 [some (.ref 151), some (.ref ec), none, some (.int (nI z)), none] [] (hp (fu S (ec + 1) 1 0)) := by
    show runv 119 0 [some (.ref 151), some (.ref ec), none, none, none] [] (hp S) = _
    have f4 : (fu S (ec + 1) 1 0).1 ec 4 = nI z := by rw [fu_a _ _ (by omega), h4]
    simp only [s119_0, n119_0, s119_1, s119_4, s119_7, n119_7, s119_8, s119_11, n0 he, n4 he, f4, List.length_cons, List.length_nil, Nat.reduceAdd, Nat.reduceLeDiff, Nat.zero_le, t1, c_clear0 he.2.1, vbind_some, vpush_none]
  obtain ⟨S1, g1, g2⟩ := c_readRuns_loop he hec bb (z + 1) z p [] (fu S (ec + 1) 1 0) none none (by omega) hB0 hT0 (by rw [fu_a _ _ (by omega), hpl]) hp0 (by simp; exact hz)
  refine ⟨S1, (Fr.fu R1).tr g1, ?_⟩
  rw [start]
  cases hm : rdRuns bs (z + 1) z p [] with
  | inl f => rw [hm] at g2; exact g2
  | inr q =>
    obtain ⟨us, p1⟩ := q
    rw [hm] at g2
    simp only [List.length_nil, Nat.zero_add] at g2
    exact g2
def rdEnt (bs hs : List Nat) (p : Nat) : Nat ⊕ (Ent × Nat) := match rdHead bs p with
  | .inl f => .inl f
  | .inr (s, z, p1) => match rdBase bs hs p s p1 with
    | .inl f => .inl f
    | .inr (b, p2) => match rdRuns bs (z + 1) z p2 [] with
      | .inl f => .inl f
      | .inr (us, p3) => .inr ((p, s, z, b, us), p3)
def rdEnts (bs : List Nat) : Nat → List Ent → Nat → Nat ⊕ (List Ent × Nat)
  | 0, es, p => .inr (es, p)
  | k + 1, es, p => match rdEnt bs (es.map (fun e => e.1)) p with
    | .inl f => .inl f
    | .inr (e, p1) => rdEnts bs k (es ++ [e]) p1
def EntIs (S : vSt) (e : Nat) (en : Ent) : Prop := S.1 (153 + 6 * e) 2 = nI en.1 ∧ S.1 (153 + 6 * e) 3 = nI en.2.1 ∧ S.1 (153 + 6 * e) 4 = nI en.2.2.1 ∧ (3 < en.2.1 → S.1 (153 + 6 * e) 5 = nI en.2.2.2.1) ∧ RowIs S (154 + 6 * e) (155 + 6 * e) 255 en.2.2.2.2
/-- what the reading itself makes sure of -/
def EntOk (n : Nat) (en : Ent) : Prop := en.1 ≤ 500 ∧ knownS en.2.1 ∧ en.2.2.2.2.length = en.2.2.1 ∧ (en.2.1 ≤ 3 → en.2.2.1 ≤ 24) ∧ en.2.2.1 ≤ 255 ∧ (∀ x ∈ en.2.2.2.2, x < 256) ∧ (en.2.1 = 6 → en.2.2.2.1 < n) ∧ en.2.2.2.1 < 65536
theorem rdHead_ok {bs : List Nat} {p s z p1 : Nat} (bb : ∀ x ∈ bs, x < 256) (h : rdHead bs p = .inr (s, z, p1)) : knownS s ∧ (s ≤ 3 → z ≤ 24) ∧ z ≤ 255 ∧ p < p1 ∧ p1 ≤ bs.length := by
  have hx := getD_lt bb p
  unfold rdHead at h
  split at h
  · rename_i h1
    split at h
    · rename_i h2
      split at h
      · cases h
        exact ⟨h2, fun _ => by omega, by omega, by omega, by omega⟩
      · split at h
        · rename_i h3
          split at h
          · cases h
          · rename_i h4
            cases h
            exact ⟨h2, fun q => by omega, by omega, by omega, by omega⟩
        · cases h
    · cases h
  · cases h
theorem rdBase_ok {bs hs : List Nat} {hd s p b p1 : Nat} (bb : ∀ x ∈ bs, x < 256) (hp0 : p ≤ bs.length) (h16 : hs.length ≤ 16) (h : rdBase bs hs hd s p = .inr (b, p1)) : p1 ≤ bs.length ∧ b < 65536 ∧ (s = 6 → b < hs.length) := by
  have hx := getD_lt bb p
  have hx1 := getD_lt bb (p + 1)
  unfold rdBase at h
  split at h
  · cases h; exact ⟨hp0, by omega, fun q => by omega⟩
  · split at h
    · split at h
      · split at h
        · cases h; exact ⟨by omega, by omega, fun q => by omega⟩
        · split at h
          · rename_i i hi
            cases h
            have := findIdx_lt hi
            exact ⟨by omega, by omega, fun _ => this⟩
          · cases h
      · cases h
    · cases h
theorem rdRuns_ok {bs : List Nat} (bb : ∀ x ∈ bs, x < 256) : ∀ n left p ts us p1, (∀ x ∈ ts, x < 256) → rdRuns bs n left p ts = .inr (us, p1) → ∀ x ∈ us, x < 256 := by
  intro n
  induction n with
  | zero => intro left p ts us p1 ht h; unfold rdRuns at h; cases h; exact ht
  | succ n ih =>
    intro left p ts us p1 ht h
    unfold rdRuns at h
    split at h
    · cases h; exact ht
    · split at h
      · split at h
        · cases h
        · split at h
          · split at h
            · refine ih _ _ _ _ _ ?_ h
              intro x hx
              rcases List.mem_append.mp hx with q | q
              · exact ht x q
              · exact bb x (List.mem_of_mem_drop (List.mem_of_mem_take q))
            · cases h
          · split at h
            · refine ih _ _ _ _ _ ?_ h
              intro x hx
              rcases List.mem_append.mp hx with q | q
              · exact ht x q
              · rw [(List.mem_replicate.mp q).2]; exact getD_lt bb _
            · cases h
      · cases h
