/-! closures: equal answers; what is selected -/
theorem cntF_len (f : Nat → Bool) : ∀ n, cntF f n = ((List.range n).filter f).length := by
  intro n
  induction n with
  | zero => rfl
  | succ n ih =>
    rw [List.range_succ, List.filter_append, List.length_append, ← ih]
    show (if f n = true then cntF f n + 1 else cntF f n) = _
    cases h : f n <;> simp [h]
theorem cnt_eq {f : Nat → Bool} {b n : Nat} {ms : List Nat} (hnd : ms.Nodup) (hf : ∀ x, f x = true ↔ ∃ q, x = b + q ∧ q ∈ ms) (hn : ∀ q ∈ ms, b + q < n) : cntF f n = ms.length := by
  rw [cntF_len]
  have hnd2 : (ms.map (fun q => b + q)).Nodup := List.Pairwise.map _ (fun a c h => by omega) hnd
  have l2 : (ms.map (fun q => b + q)).length = ms.length := List.length_map ..
  have h1 : ((List.range n).filter f).length ≤ (ms.map (fun q => b + q)).length := by
    refine List.Nodup.length_le_of_subset (List.Pairwise.filter _ List.nodup_range) ?_
    intro x hx
    obtain ⟨q, h3, h4⟩ := (hf x).mp (List.mem_filter.mp hx).2
    exact List.mem_map.mpr ⟨q, h4, h3.symm⟩
  have h2 : (ms.map (fun q => b + q)).length ≤ ((List.range n).filter f).length := by
    refine List.Nodup.length_le_of_subset hnd2 ?_
    intro x hx
    obtain ⟨q, h3, rfl⟩ := List.mem_map.mp hx
    exact List.mem_filter.mpr ⟨List.mem_range.mpr (hn q h3), (hf _).mpr ⟨q, rfl, h3⟩⟩
  omega
theorem clo_eq {s : Nat} {l : List Obj} (hl : l.length ≤ cap0 s) (id : Int32) : cloR s l id = cloN l id := by
  have hc : cap0 s ≤ 24 ∧ st0 s ≤ 16 ∧ st0 s + cap0 s ≤ 40 := by unfold cap0 st0; split <;> omega
  unfold cloR cloN
  cases hf : fIdx l id with
  | none =>
    have e : incl l 24 id [] = (false, []) := by unfold incl; rw [hf]
    rw [e]
    exact (if_neg (by decide)).symm
  | some p =>
    have hp0 := fIdx_lt hf
    obtain ⟨a1, a2⟩ := cls_spec (os := l) (b := st0 s) (p := p) (f := fun _ => false) (by omega) hp0 (fun k j h => absurd h (by decide))
    obtain ⟨c1, c2⟩ := incl_spec (os := l) (N := 24) (ms := []) (by omega) hf List.nodup_nil (fun k hk => by cases hk) (fun k hk => by cases hk)
    have m1 : ∀ x, (cls l (st0 s) (fun _ => false) p).1 x = true ↔ ∃ q, x = st0 s + q ∧ Rch l p q := by
      intro x
      rw [a1]
      constructor
      · rintro (h | h)
        · exact absurd h (by decide)
        · exact h
      · exact Or.inr
    simp only
    cases hi : (incl l 24 id []).1 with
    | false =>
      obtain ⟨k, h1, h2⟩ := c2 hi
      rw [if_neg (show ¬ (false = true) by decide), if_neg (fun h => a2.mp h k ((m1 _).mpr ⟨k, rfl, h1⟩) h2)]
    | true =>
      obtain ⟨d1, d2, d3⟩ := c1 hi
      have m2 : ∀ x, x ∈ (incl l 24 id []).2 ↔ Rch l p x := fun x => by
        rw [d2]
        constructor
        · rintro (h | h)
          · cases h
          · exact h
        · exact Or.inr
      rw [if_pos rfl, if_pos (a2.mpr (fun q hq => by
        obtain ⟨q2, h1, h2⟩ := (m1 _).mp hq
        have : q = q2 := by omega
        subst this
        exact (d3 q ((m2 q).mpr h2)).2.1)), cnt_eq d1 (fun x => (m1 x).trans ⟨fun ⟨q, h1, h2⟩ => ⟨q, h1, (m2 q).mpr h2⟩, fun ⟨q, h1, h2⟩ => ⟨q, h1, (m2 q).mp h2⟩⟩) (fun q hq => by have := (d3 q hq).1; omega)]
theorem fIdx_is {os : List Obj} {id : Int32} {p : Nat} (h : fIdx os id = some p) : nI (oid (oAt os p).1 (oAt os p).2) = id := by
  have hp0 := fIdx_lt h
  unfold fIdx at h
  rw [List.findIdx?_eq_some_iff_getElem] at h
  obtain ⟨_, h2, _⟩ := h
  unfold oAt
  rw [List.getD_eq_getElem?_getD, List.getElem?_eq_getElem hp0]
  exact of_decide_eq_true h2
theorem fIdx_uq {os : List Obj} (hu : Uniq os) {p : Nat} (hp0 : p < os.length) : fIdx os (nI (oid (oAt os p).1 (oAt os p).2)) = some p := by
  have e : oAt os p = os[p] := by unfold oAt; rw [List.getD_eq_getElem?_getD, List.getElem?_eq_getElem hp0]; rfl
  rw [e]
  unfold fIdx
  rw [List.findIdx?_eq_some_iff_getElem]
  refine ⟨hp0, decide_eq_true rfl, fun j hj => ?_⟩
  rw [decide_eq_true_eq]
  intro hq
  have hjl : j < os.length := by omega
  have h1 : oid os[j].1 os[j].2 = oid os[p].1 os[p].2 := by
    have a1 := oid_lt os[j].1 os[j].2
    have a2 := oid_lt os[p].1 os[p].2
    exact (nI_eq (by omega) (by omega)).mp hq
  unfold Uniq at hu
  rw [List.nodup_iff_pairwise_ne] at hu
  have := List.pairwise_iff_getElem.mp hu j p (by simpa using hjl) (by simpa using hp0) hj
  simp only [List.getElem_map] at this
  exact this h1
/-- all that is named is there -/
def Good (os : List Obj) : Prop := ∀ k, ¬ bad os k
def anyR (os : List Obj) (ids : List Int32) (x : Nat) : Prop := ∃ id ∈ ids, ∃ p, fIdx os id = some p ∧ Rch os p x
theorem inclL_spec {os : List Obj} {N : Nat} (hN : os.length ≤ N) (hg : Good os) : ∀ (ids : List Int32) (ms : List Nat), ms.Nodup → (∀ k ∈ ms, k < os.length) → (∀ k ∈ ms, ∀ j, stp os k j → j ∈ ms) → ∀ x, x ∈ inclL os N ids ms ↔ x ∈ ms ∨ anyR os ids x := by
  intro ids
  induction ids with
  | nil =>
    intro ms h1 h2 h3 x
    unfold inclL anyR
    simp
  | cons id t ih =>
    intro ms h1 h2 h3 x
    unfold inclL
    cases hf : fIdx os id with
    | none =>
      have e : incl os N id ms = (false, ms) := by unfold incl; rw [hf]
      rw [e, ih ms h1 h2 h3]
      constructor
      · rintro (h | ⟨i, h4, p, h5, h6⟩)
        · exact Or.inl h
        · exact Or.inr ⟨i, List.mem_cons_of_mem _ h4, p, h5, h6⟩
      · rintro (h | ⟨i, h4, p, h5, h6⟩)
        · exact Or.inl h
        · rcases List.mem_cons.mp h4 with rfl | h4
          · rw [hf] at h5; cases h5
          · exact Or.inr ⟨i, h4, p, h5, h6⟩
    | some p =>
      obtain ⟨c1, c2⟩ := incl_spec hN hf h1 h2 (fun k hk => ⟨hg k, h3 k hk⟩)
      have hi : (incl os N id ms).1 = true := by
        cases e : (incl os N id ms).1 with
        | true => rfl
        | false =>
          obtain ⟨k, _, h⟩ := c2 e
          exact absurd h (hg k)
      obtain ⟨d1, d2, d3⟩ := c1 hi
      rw [ih _ d1 (fun k hk => (d3 k hk).1) (fun k hk => (d3 k hk).2.2), d2]
      constructor
      · rintro ((h | h) | ⟨i, h4, p2, h5, h6⟩)
        · exact Or.inl h
        · exact Or.inr ⟨id, List.mem_cons_self, p, hf, h⟩
        · exact Or.inr ⟨i, List.mem_cons_of_mem _ h4, p2, h5, h6⟩
      · rintro (h | ⟨i, h4, p2, h5, h6⟩)
        · exact Or.inl (Or.inl h)
        · rcases List.mem_cons.mp h4 with rfl | h4
          · rw [hf] at h5
            cases h5
            exact Or.inl (Or.inr h6)
          · exact Or.inr ⟨i, h4, p2, h5, h6⟩
def hvF (os : List Obj) : List Int32 → (Nat → Bool) → Nat → Bool
  | [], f => f
  | id :: t, f => hvF os t (match fIdx os id with
    | none => f
    | some p => (cls os 0 f p).1)
theorem hvF_spec {os : List Obj} (hl : os.length ≤ 24) : ∀ (ids : List Int32) (f : Nat → Bool), (∀ k j, f (0 + k) = true → stp os k j → f (0 + j) = true) → ∀ x, hvF os ids f x = true ↔ f x = true ∨ anyR os ids x := by
  intro ids
  induction ids with
  | nil =>
    intro f h1 x
    unfold hvF anyR
    simp
  | cons id t ih =>
    intro f h1 x
    unfold hvF
    cases hf : fIdx os id with
    | none =>
      simp only
      rw [ih f h1]
      constructor
      · rintro (h | ⟨i, h4, p, h5, h6⟩)
        · exact Or.inl h
        · exact Or.inr ⟨i, List.mem_cons_of_mem _ h4, p, h5, h6⟩
      · rintro (h | ⟨i, h4, p, h5, h6⟩)
        · exact Or.inl h
        · rcases List.mem_cons.mp h4 with rfl | h4
          · rw [hf] at h5; cases h5
          · exact Or.inr ⟨i, h4, p, h5, h6⟩
    | some p =>
      obtain ⟨a1, a2⟩ := cls_spec (os := os) (b := 0) (f := f) hl (fIdx_lt hf) h1
      simp only
      rw [ih _ (fun k j h2 h3 => by
        rcases (a1 _).mp h2 with h | ⟨q, h4, h5⟩
        · exact (a1 _).mpr (Or.inl (h1 k j h h3))
        · have : k = q := by omega
          subst this
          exact (a1 _).mpr (Or.inr ⟨j, rfl, h5.st h3⟩)), a1]
      constructor
      · rintro ((h | ⟨q, h7, h⟩) | ⟨i, h4, p2, h5, h6⟩)
        · exact Or.inl h
        · have : x = q := by omega
          subst this
          exact Or.inr ⟨id, List.mem_cons_self, p, hf, h⟩
        · exact Or.inr ⟨i, List.mem_cons_of_mem _ h4, p2, h5, h6⟩
      · rintro (h | ⟨i, h4, p2, h5, h6⟩)
        · exact Or.inl (Or.inl h)
        · rcases List.mem_cons.mp h4 with rfl | h4
          · rw [hf] at h5
            cases h5
            exact Or.inl (Or.inr ⟨x, by omega, h6⟩)
          · exact Or.inr ⟨i, h4, p2, h5, h6⟩
def wnF (os : List Obj) (wn : List Int32) : Nat → Nat → (Nat → Bool) → Nat → Bool
  | 0, _, f => f
  | n + 1, k, f => wnF os wn n (k + 1) (if wMk os wn k = true then (cls os 0 f k).1 else f)
theorem wnF_spec {os : List Obj} {wn : List Int32} (hl : os.length ≤ 24) : ∀ n k (f : Nat → Bool), k + n ≤ os.length → (∀ k j, f (0 + k) = true → stp os k j → f (0 + j) = true) → ∀ x, wnF os wn n k f x = true ↔ f x = true ∨ ∃ q, k ≤ q ∧ q < k + n ∧ wMk os wn q = true ∧ Rch os q x := by
  intro n
  induction n with
  | zero =>
    intro k f hk h1 x
    unfold wnF
    refine ⟨Or.inl, ?_⟩
    rintro (h | ⟨q, h2, h3, _⟩)
    · exact h
    · omega
  | succ n ih =>
    intro k f hk h1 x
    unfold wnF
    cases hw : wMk os wn k with
    | false =>
      rw [if_neg (by decide), ih (k + 1) f (by omega) h1]
      constructor
      · rintro (h | ⟨q, h2, h3, h4⟩)
        · exact Or.inl h
        · exact Or.inr ⟨q, by omega, by omega, h4⟩
      · rintro (h | ⟨q, h2, h3, h4, h5⟩)
        · exact Or.inl h
        · by_cases e : q = k
          · subst e; rw [hw] at h4; cases h4
          · exact Or.inr ⟨q, by omega, by omega, h4, h5⟩
    | true =>
      obtain ⟨a1, a2⟩ := cls_spec (os := os) (b := 0) (f := f) hl (show k < os.length by omega) h1
      rw [if_pos rfl, ih (k + 1) _ (by omega) (fun k2 j h2 h3 => by
        rcases (a1 _).mp h2 with h | ⟨q, h4, h5⟩
        · exact (a1 _).mpr (Or.inl (h1 k2 j h h3))
        · have : k2 = q := by omega
          subst this
          exact (a1 _).mpr (Or.inr ⟨j, rfl, h5.st h3⟩)), a1]
      constructor
      · rintro ((h | ⟨q, h7, h⟩) | ⟨q, h2, h3, h4⟩)
        · exact Or.inl h
        · have : x = q := by omega
          subst this
          exact Or.inr ⟨k, by omega, by omega, hw, h⟩
        · exact Or.inr ⟨q, by omega, by omega, h4⟩
      · rintro (h | ⟨q, h2, h3, h4, h5⟩)
        · exact Or.inl (Or.inl h)
        · by_cases e : q = k
          · subst e
            exact Or.inl (Or.inr ⟨x, by omega, h5⟩)
          · exact Or.inr ⟨q, by omega, by omega, h4, h5⟩
def shF (f : Nat → Bool) : Nat → Bool := fun x => if x < 16 then false else if x < 32 then f (x - 16) else f x
def cutF (f : Nat → Bool) : Nat → Bool := fun x => if x < 16 then f x && !f (16 + x) else f x
def selF (os : List Obj) (wn hv : List Int32) : Nat → Bool := cutF (wnF os wn os.length 0 (shF (hvF os hv (fun _ => false))))
theorem selF_spec {os : List Obj} {wn hv : List Int32} (hl : os.length ≤ 16) (hu : Uniq os) (hg : Good os) {x : Nat} (hx : x < os.length) : selF os wn hv x = true ↔ x ∈ inclL os 24 wn [] ∧ ¬ x ∈ inclL os 16 hv [] := by
  have hR : ∀ {p j : Nat}, p < os.length → Rch os p j → j < 16 := fun h1 h2 => by have := h2.lt h1; omega
  have w1 : x ∈ inclL os 24 wn [] ↔ anyR os wn x := by
    rw [inclL_spec (by omega) hg wn [] List.nodup_nil (fun k hk => by cases hk) (fun k hk => by cases hk)]
    exact ⟨fun h => h.resolve_left (fun z => by cases z), Or.inr⟩
  have w2 : x ∈ inclL os 16 hv [] ↔ anyR os hv x := by
    rw [inclL_spec (by omega) hg hv [] List.nodup_nil (fun k hk => by cases hk) (fun k hk => by cases hk)]
    exact ⟨fun h => h.resolve_left (fun z => by cases z), Or.inr⟩
  have h0 : ∀ y, hvF os hv (fun _ => false) y = true ↔ anyR os hv y := fun y => by
    rw [hvF_spec (by omega) hv (fun _ => false) (fun k j h => absurd h (by decide))]
    exact ⟨fun h => h.resolve_left (by decide), Or.inr⟩
  have cl : ∀ k j, shF (hvF os hv (fun _ => false)) (0 + k) = true → stp os k j → shF (hvF os hv (fun _ => false)) (0 + j) = true := by
    intro k j h g
    have := g.1
    unfold shF at h
    rw [if_pos (by omega)] at h
    cases h
  have h1 := wnF_spec (os := os) (wn := wn) (show os.length ≤ 24 by omega) os.length 0 _ (show 0 + os.length ≤ os.length by omega) cl
  unfold selF cutF
  rw [if_pos (by omega), Bool.and_eq_true, Bool.not_eq_true', w1, w2]
  have e1 : (wnF os wn os.length 0 (shF (hvF os hv (fun _ => false))) x = true) ↔ anyR os wn x := by
    rw [h1]
    constructor
    · rintro (h | ⟨q, h2, h3, h4, h5⟩)
      · unfold shF at h
        rw [if_pos (by omega)] at h
        cases h
      · have hq : q < os.length := by omega
        unfold wMk at h4
        rw [List.getElem?_eq_getElem hq] at h4
        have e : oAt os q = os[q] := by unfold oAt; rw [List.getD_eq_getElem?_getD, List.getElem?_eq_getElem hq]; rfl
        have h6 := of_decide_eq_true h4
        rw [← e] at h6
        exact ⟨_, h6, q, fIdx_uq hu hq, h5⟩
    · rintro ⟨id, h2, p, h3, h4⟩
      have hq := fIdx_lt h3
      refine Or.inr ⟨p, by omega, by omega, ?_, h4⟩
      unfold wMk
      rw [List.getElem?_eq_getElem hq]
      have e : oAt os p = os[p] := by unfold oAt; rw [List.getD_eq_getElem?_getD, List.getElem?_eq_getElem hq]; rfl
      have := fIdx_is h3
      rw [e] at this
      simp only
      rw [this]
      exact decide_eq_true h2
  have e2 : (wnF os wn os.length 0 (shF (hvF os hv (fun _ => false))) (16 + x) = true) ↔ anyR os hv x := by
    rw [h1]
    constructor
    · rintro (h | ⟨q, h2, h3, h4, h5⟩)
      · unfold shF at h
        rw [if_neg (by omega), if_pos (by omega), show 16 + x - 16 = x by omega] at h
        exact (h0 x).mp h
      · have := hR (show q < os.length by omega) h5
        omega
    · intro h
      left
      unfold shF
      rw [if_neg (by omega), if_pos (by omega), show 16 + x - 16 = x by omega]
      exact (h0 x).mpr h
  rw [e1]
  constructor
  · rintro ⟨a, c⟩
    exact ⟨a, fun z => by rw [e2.mpr z] at c; cases c⟩
  · rintro ⟨a, c⟩
    refine ⟨a, ?_⟩
    cases e : wnF os wn os.length 0 (shF (hvF os hv (fun _ => false))) (16 + x) with
    | false => rfl
    | true => exact absurd (e2.mp e) c
