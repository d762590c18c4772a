/-! the script's cell stays -/
def k104 (h h1 : vH) : Prop := ∀ (a : Nat) (l : List Value), h[a]? = some (104, l) → h1[a]? = some (104, l)
theorem k104.rf {h : vH} : k104 h h := fun _ _ hc => hc
theorem k104.tr {h h1 h2 : vH} (g : k104 h h1) (g2 : k104 h1 h2) : k104 h h2 := fun a l hc => g2 a l (g a l hc)
theorem k104.set {h : vH} {a t : Nat} {l l1 : List Value} (ha : h[a]? = some (t, l)) (ht : t ≠ 104) : k104 h (h.set a (t, l1)) := by
  intro b c hc
  by_cases hb : a = b
  · subst hb
    rw [ha] at hc
    injection hc with hc
    injection hc with h1 h2
    exact absurd h1 ht
  · rw [List.getElem?_set_ne hb]; exact hc
theorem k104.push {h : vH} {d : vC} : k104 h (h ++ [d]) := by
  intro b c hc
  have hlt : b < h.length := (List.getElem?_eq_some_iff.mp hc).1
  rw [List.getElem?_append_left hlt]; exact hc
theorem vstep_k104 {mi : Nat} {x : vI} {pc : Nat} {ls : vL} {st : List Value} {h : vH} {y : vS} (hx : vcode mi pc = some x) (hs : vstep x pc ls st h = some y) : k104 h y.2.2.2 := by
  obtain ⟨i, len, r1, r2⟩ := x
  have hr : ∀ idx, i = .putfield idx → r1 ≠ 104 := fun idx e => by
    subst e
    obtain ⟨q, hq, _⟩ := vok_put hx
    have h1 := (List.getElem?_eq_some_iff.mp hq).1
    have h2 : vcl.length = 10 := rfl
    omega
  clear hx
  have same : ∀ {pc1 : Nat} {ls1 : vL} {st1 : List Value}, some (pc1, ls1, st1, h) = some y → k104 h y.2.2.2 := fun hq => by
    cases hq
    exact k104.rf
  have jmp : ∀ {off : Int} {r : List Value}, vjump pc off ls r h = some y → k104 h y.2.2.2 := fun hq => by
    obtain ⟨-, rfl⟩ := vjump_some hq
    exact k104.rf
  have psh : ∀ {pc1 : Nat} {ls1 : vL} {st1 : List Value} {c : vC}, some (pc1, ls1, st1, h ++ [c]) = some y → k104 h y.2.2.2 := fun hq => by
    cases hq
    exact k104.push
  have sett : ∀ {pc1 : Nat} {ls1 : vL} {st1 : List Value} {a t : Nat} {l l1 : List Value}, h[a]? = some (t, l) → t ≠ 104 → some (pc1, ls1, st1, h.set a (t, l1)) = some y → k104 h y.2.2.2 := fun ha ht hq => by
    cases hq
    exact k104.set ha ht
  cases i <;> simp only [vstep] at hs <;> first
    | (cases hs; done)
    | exact same hs
    | exact jmp hs
    | exact psh hs
    | (repeat' (split at hs)) <;> first
      | (cases hs; done)
      | exact same hs
      | exact jmp hs
      | exact psh hs
      | (rename_i hc; exact sett (by assumption) (by rw [hc.1]; decide) hs)
      | (rename_i hc; exact sett (by assumption) (by rw [hc.1]; exact hr _ rfl) hs)
      | (rename_i hc; exact sett (by assumption) (by rw [hc.2.1]; decide) hs)
      | (rename_i hc; exact sett (by assumption) (by rcases hc.1 with q | q <;> rw [q] <;> decide) hs)
theorem vexec_k104 {f mi pc : Nat} {ls : vL} {st : List Value} {h h1 : vH} {v : Option Value} (hs : vexec f mi pc ls st h = some (v, h1)) : k104 h h1 := by
  induction f generalizing mi pc ls st h h1 v with
  | zero => cases hs
  | succ f ih =>
    unfold vexec at hs
    split at hs
    · cases hs
    · rename_i x hx
      split at hs
      · split at hs
        · cases hs
        · rename_i y hy
          exact (vstep_k104 hx hy).tr (ih hs)
      · rw [vretv_h hs]
        exact k104.rf
      · split at hs
        · cases hs
        · split at hs
          · cases hs
          · rename_i v1 h2 hv1
            exact (ih hv1).tr (ih hs)
theorem scr_keep {mi : Nat} {as : List Value} {v : Option Value} {S S1 : vSt} (h : callv mi as (hp S) = some (v, hp S1)) : S1.2 0 = S.2 0 := by
  obtain ⟨f, hf⟩ := runv_iff.mp h
  have e1 : (hp S)[0]? = some (104, (S.2 0).map Value.int) := by rw [hp_get]; rfl
  have e2 : (hp S1)[0]? = some (104, (S1.2 0).map Value.int) := by rw [hp_get]; rfl
  have g := vexec_k104 hf 0 _ e1
  rw [e2] at g
  injection g with g
  injection g with g1 g2
  have inj : ∀ a b : List Int32, a.map Value.int = b.map Value.int → a = b := by
    intro a
    induction a with
    | nil => intro b hb; cases b with
      | nil => rfl
      | cons x b => cases hb
    | cons x a ih =>
      intro b hb
      cases b with
      | nil => cases hb
      | cons y b =>
        rw [List.map_cons, List.map_cons] at hb
        injection hb with h1 h2
        injection h1 with h1
        rw [h1, ih b h2]
  exact inj _ _ g2
