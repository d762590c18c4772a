/-! closures: both ways reach the same -/
def stp (os : List Obj) (k j : Nat) : Prop := k < os.length ∧ ∃ i, i < nmN (oAt os k).1 (oAt os k).2.length ∧ nmd os (oAt os k) i = some j
def bad (os : List Obj) (k : Nat) : Prop := k < os.length ∧ ∃ i, i < nmN (oAt os k).1 (oAt os k).2.length ∧ nmd os (oAt os k) i = none
/-- reached from p: in every set that holds p and what is named in it -/
def Rch (os : List Obj) (p j : Nat) : Prop := ∀ D : Nat → Prop, D p → (∀ k i, D k → stp os k i → D i) → D j
theorem Rch.rf {os : List Obj} {p : Nat} : Rch os p p := fun _ h _ => h
theorem Rch.st {os : List Obj} {p k j : Nat} (h : Rch os p k) (g : stp os k j) : Rch os p j := fun D h1 h2 => h2 k j (h D h1 h2) g
theorem Rch.lt {os : List Obj} {p j : Nat} (h : Rch os p j) (hp0 : p < os.length) : j < os.length := h (fun j => j < os.length) hp0 (fun _ _ _ g => by
  obtain ⟨_, _, _, g3⟩ := g
  exact nmd_lt g3)
/-- one object's names -/
theorem clI_spec {os : List Obj} {o : Obj} {b : Nat} : ∀ n i (st : Cst), (∀ x, (clI os o b n i st).1 x = true ↔ st.1 x = true ∨ ∃ t j, i ≤ t ∧ t < i + n ∧ nmd os o t = some j ∧ x = b + j) ∧ ((clI os o b n i st).2.1 = true ↔ st.2.1 = true ∧ ∀ t, i ≤ t → t < i + n → nmd os o t ≠ none) ∧ ((clI os o b n i st).2.2 = true ↔ st.2.2 = true ∨ ∃ t j, i ≤ t ∧ t < i + n ∧ nmd os o t = some j ∧ st.1 (b + j) = false) := by
  intro n
  induction n with
  | zero =>
    intro i st
    refine ⟨fun x => ⟨Or.inl, ?_⟩, ⟨fun h => ⟨h, fun t h1 h2 => by omega⟩, fun h => h.1⟩, ⟨Or.inl, ?_⟩⟩
    · rintro (h | ⟨t, j, h1, h2, _⟩)
      · exact h
      · omega
    · rintro (h | ⟨t, j, h1, h2, _⟩)
      · exact h
      · omega
  | succ n ih =>
    intro i st
    unfold clI
    cases hn : nmd os o i with
    | none =>
      obtain ⟨a1, a2, a3⟩ := ih (i + 1) (st.1, false, st.2.2)
      refine ⟨fun x => ?_, ?_, ?_⟩
      · rw [a1]
        constructor
        · rintro (h | ⟨t, j, h1, h2, h3⟩)
          · exact Or.inl h
          · exact Or.inr ⟨t, j, by omega, by omega, h3⟩
        · rintro (h | ⟨t, j, h1, h2, h3, h4⟩)
          · exact Or.inl h
          · by_cases e : t = i
            · subst e; rw [hn] at h3; cases h3
            · exact Or.inr ⟨t, j, by omega, by omega, h3, h4⟩
      · rw [a2]
        constructor
        · intro h; exact absurd h.1 (show ¬ (false = true) by decide)
        · intro h; exact absurd hn (h.2 i (by omega) (by omega))
      · rw [a3]
        constructor
        · rintro (h | ⟨t, j, h1, h2, h3⟩)
          · exact Or.inl h
          · exact Or.inr ⟨t, j, by omega, by omega, h3⟩
        · rintro (h | ⟨t, j, h1, h2, h3, h4⟩)
          · exact Or.inl h
          · by_cases e : t = i
            · subst e; rw [hn] at h3; cases h3
            · exact Or.inr ⟨t, j, by omega, by omega, h3, h4⟩
    | some q =>
      obtain ⟨a1, a2, a3⟩ := ih (i + 1) (mkU st.1 (b + q), st.2.1, st.2.2 || !st.1 (b + q))
      have hU : ∀ x, mkU st.1 (b + q) x = true ↔ st.1 x = true ∨ x = b + q := by
        intro x
        unfold mkU
        split
        · rename_i e; exact ⟨fun _ => Or.inr e, fun _ => rfl⟩
        · rename_i e; exact ⟨Or.inl, fun h => h.resolve_right e⟩
      refine ⟨fun x => ?_, ?_, ?_⟩
      · rw [a1, hU]
        constructor
        · rintro ((h | h) | ⟨t, j, h1, h2, h3⟩)
          · exact Or.inl h
          · exact Or.inr ⟨i, q, by omega, by omega, hn, h⟩
          · exact Or.inr ⟨t, j, by omega, by omega, h3⟩
        · rintro (h | ⟨t, j, h1, h2, h3, h4⟩)
          · exact Or.inl (Or.inl h)
          · by_cases e : t = i
            · subst e
              rw [hn] at h3
              cases h3
              exact Or.inl (Or.inr h4)
            · exact Or.inr ⟨t, j, by omega, by omega, h3, h4⟩
      · rw [a2]
        constructor
        · rintro ⟨h1, h2⟩
          refine ⟨h1, fun t h3 h4 => ?_⟩
          by_cases e : t = i
          · subst e; rw [hn]; exact fun z => by cases z
          · exact h2 t (by omega) (by omega)
        · rintro ⟨h1, h2⟩
          exact ⟨h1, fun t h3 h4 => h2 t (by omega) (by omega)⟩
      · rw [a3]
        simp only [Bool.or_eq_true, Bool.not_eq_true']
        constructor
        · rintro ((h | h) | ⟨t, j, h1, h2, h3, h4⟩)
          · exact Or.inl h
          · exact Or.inr ⟨i, q, by omega, by omega, hn, h⟩
          · refine Or.inr ⟨t, j, by omega, by omega, h3, ?_⟩
            cases h5 : st.1 (b + j) with
            | false => rfl
            | true => rw [(hU (b + j)).mpr (Or.inl h5)] at h4; cases h4
        · rintro (h | ⟨t, j, h1, h2, h3, h4⟩)
          · exact Or.inl (Or.inl h)
          · by_cases e : t = i
            · subst e
              rw [hn] at h3
              cases h3
              exact Or.inl (Or.inr h4)
            · by_cases e2 : j = q
              · subst e2
                exact Or.inl (Or.inr h4)
              · refine Or.inr ⟨t, j, by omega, by omega, h3, ?_⟩
                cases h5 : mkU st.1 (b + q) (b + j) with
                | false => rfl
                | true =>
                  rcases (hU (b + j)).mp h5 with h6 | h6
                  · rw [h4] at h6; cases h6
                  · omega
theorem oAt_drop {os : List Obj} {k : Nat} {o : Obj} {t : List Obj} (h : os.drop k = o :: t) : k < os.length ∧ oAt os k = o ∧ os.drop (k + 1) = t := by
  have hk : k < os.length := by
    rcases Nat.lt_or_ge k os.length with q | q
    · exact q
    · rw [List.drop_of_length_le q] at h; cases h
  rw [List.drop_eq_getElem_cons hk] at h
  injection h with h1 h2
  refine ⟨hk, ?_, h2⟩
  unfold oAt
  rw [List.getD_eq_getElem?_getD, List.getElem?_eq_getElem hk]
  exact h1
/-- a round: it grows, stays within what is closed, and where nothing is new all is closed -/
theorem clR_spec {os : List Obj} {b : Nat} {C : Nat → Prop} (hC : ∀ k j, C (b + k) → stp os k j → C (b + j)) : ∀ t k (st : Cst), os.drop k = t → (∀ x, st.1 x = true → C x) → (∀ x, st.1 x = true → (clR os b t k st).1 x = true) ∧ (∀ x, (clR os b t k st).1 x = true → C x) ∧ (∀ x, (clR os b t k st).1 x = true → st.1 x = true ∨ ∃ j, j < os.length ∧ x = b + j) ∧ ((clR os b t k st).2.2 = false → st.2.2 = false ∧ (clR os b t k st).1 = st.1 ∧ ((clR os b t k st).2.1 = true ↔ st.2.1 = true ∧ ∀ q, k ≤ q → st.1 (b + q) = true → ¬ bad os q) ∧ ∀ q j, k ≤ q → st.1 (b + q) = true → stp os q j → st.1 (b + j) = true) ∧ ((clR os b t k st).2.2 = true → st.2.2 = true ∨ ∃ x, (clR os b t k st).1 x = true ∧ st.1 x = false) ∧ ((clR os b t k st).2.1 = true → st.2.1 = true) ∧ ((clR os b t k st).2.1 = false → st.2.1 = false ∨ ∃ q, C (b + q) ∧ bad os q) := by
  intro t
  induction t with
  | nil =>
    intro k st hk hst
    have hkl : os.length ≤ k := by
      rcases Nat.lt_or_ge k os.length with q | q
      · rw [List.drop_eq_getElem_cons q] at hk; cases hk
      · exact q
    refine ⟨fun x h => h, hst, fun x h => Or.inl h, fun h => ⟨h, rfl, ⟨fun w => ⟨w, fun q h1 _ h3 => ?_⟩, fun w => w.1⟩, fun q j h1 _ h3 => ?_⟩, Or.inl, fun h => h, Or.inl⟩
    · have := h3.1; omega
    · have := h3.1; omega
  | cons o t ih =>
    intro k st hk hst
    obtain ⟨hkl, hok, hdr⟩ := oAt_drop hk
    unfold clR
    cases hf : st.1 (b + k) with
    | false =>
      rw [if_neg (by decide)]
      obtain ⟨a1, a2, a2b, a3, a4, a5, a6⟩ := ih (k + 1) st hdr hst
      refine ⟨a1, a2, a2b, fun h => ?_, a4, a5, a6⟩
      obtain ⟨b1, b2, b3, b4⟩ := a3 h
      refine ⟨b1, b2, ?_, fun q j h1 h2 h3 => ?_⟩
      · rw [b3]
        constructor
        · rintro ⟨w, h4⟩
          refine ⟨w, fun q h1 h2 => ?_⟩
          by_cases e : q = k
          · subst e; rw [hf] at h2; cases h2
          · exact h4 q (by omega) h2
        · rintro ⟨w, h4⟩
          exact ⟨w, fun q h1 h2 => h4 q (by omega) h2⟩
      · by_cases e : q = k
        · subst e; rw [hf] at h2; cases h2
        · exact b4 q j (by omega) h2 h3
    | true =>
      rw [if_pos rfl]
      obtain ⟨c1, c2, c3⟩ := clI_spec (os := os) (o := o) (b := b) (nmN o.1 o.2.length) 0 st
      have hbad : bad os k ↔ ¬ ∀ i, 0 ≤ i → i < 0 + nmN o.1 o.2.length → nmd os o i ≠ none := by
        unfold bad
        rw [hok]
        constructor
        · rintro ⟨_, i, h1, h2⟩ h3
          exact h3 i (by omega) (by omega) h2
        · intro h
          refine ⟨hkl, ?_⟩
          apply Classical.byContradiction
          intro h2
          exact h (fun i _ h3 h4 => h2 ⟨i, by omega, h4⟩)
      have hC1 : ∀ x, (clI os o b (nmN o.1 o.2.length) 0 st).1 x = true → C x := by
        intro x hx
        rcases (c1 x).mp hx with h | ⟨i, j, h1, h2, h3, h4⟩
        · exact hst x h
        · subst h4
          exact hC k j (hst _ hf) ⟨hkl, i, by rw [hok]; omega, by rw [hok]; exact h3⟩
      obtain ⟨a1, a2, a2b, a3, a4, a5, a6⟩ := ih (k + 1) _ hdr hC1
      have up : ∀ x, st.1 x = true → (clI os o b (nmN o.1 o.2.length) 0 st).1 x = true := fun x h => (c1 x).mpr (Or.inl h)
      refine ⟨fun x h => a1 x (up x h), a2, fun x h => ?_, fun h => ?_, fun h => ?_, fun h => (c2.mp (a5 h)).1, fun h => ?_⟩
      · rcases a2b x h with q | q
        · rcases (c1 x).mp q with z | ⟨i, j, h1, h2, h3, h4⟩
          · exact Or.inl z
          · exact Or.inr ⟨j, nmd_lt h3, h4⟩
        · exact Or.inr q
      · obtain ⟨b1, b2, b3, b4⟩ := a3 h
        have hm : st.2.2 = false ∧ ∀ i j, i < nmN o.1 o.2.length → nmd os o i = some j → st.1 (b + j) = true := by
          constructor
          · cases e : st.2.2 with
            | false => rfl
            | true => rw [c3.mpr (Or.inl e)] at b1; cases b1
          · intro i j h1 h2
            cases e : st.1 (b + j) with
            | true => rfl
            | false => rw [c3.mpr (Or.inr ⟨i, j, by omega, by omega, h2, e⟩)] at b1; cases b1
        have he : (clI os o b (nmN o.1 o.2.length) 0 st).1 = st.1 := by
          funext x
          cases e : st.1 x with
          | true => exact up x e
          | false =>
            cases e2 : (clI os o b (nmN o.1 o.2.length) 0 st).1 x with
            | false => rfl
            | true =>
              rcases (c1 x).mp e2 with z | ⟨i, j, h1, h2, h3, h4⟩
              · rw [e] at z; cases z
              · subst h4
                rw [hm.2 i j (by omega) h3] at e
                cases e
        rw [he] at b2 b3 b4
        refine ⟨hm.1, b2, ?_, fun q j h1 h2 h3 => ?_⟩
        · rw [b3, c2]
          constructor
          · rintro ⟨⟨w1, w2⟩, w3⟩
            refine ⟨w1, fun q h1 h2 => ?_⟩
            by_cases e : q = k
            · subst e
              rw [hbad]
              exact fun z => z w2
            · exact w3 q (by omega) h2
          · rintro ⟨w1, w2⟩
            refine ⟨⟨w1, ?_⟩, fun q h1 h2 => w2 q (by omega) h2⟩
            have := w2 k (by omega) hf
            rw [hbad] at this
            exact Classical.byContradiction this
        · by_cases e : q = k
          · subst e
            obtain ⟨_, i, h4, h5⟩ := h3
            rw [hok] at h4 h5
            exact hm.2 i j h4 h5
          · exact b4 q j (by omega) h2 h3
      · rcases a4 h with z | ⟨x, z1, z2⟩
        · rcases c3.mp z with w | ⟨i, j, h1, h2, h3, h4⟩
          · exact Or.inl w
          · refine Or.inr ⟨b + j, a1 _ ((c1 _).mpr (Or.inr ⟨i, j, h1, h2, h3, rfl⟩)), h4⟩
        · refine Or.inr ⟨x, z1, ?_⟩
          cases e : st.1 x with
          | false => rfl
          | true => rw [up x e] at z2; cases z2
      · rcases a6 h with z | z
        · cases e : st.2.1 with
          | false => exact Or.inl rfl
          | true =>
            right
            refine ⟨k, hst _ hf, hbad.mpr (fun w => ?_)⟩
            rw [c2.mpr ⟨e, w⟩] at z
            cases z
        · exact Or.inr z
