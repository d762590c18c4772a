/-! the reference: a difference applied -/
theorem apF_up {B D : List Nat} {N : Nat} : ∀ n p (ts us : List Nat), apF B D N n p ts = some us → ts.length ≤ us.length := by
  intro n
  induction n with
  | zero =>
    intro p ts us h
    injection h with h
    rw [h]
    exact Nat.le_refl _
  | succ n ih =>
    intro p ts us h
    unfold apF at h
    by_cases h1 : p < D.length
    · rw [if_pos h1] at h
      by_cases h2 : D.getD p 0 % 128 = 0
      · rw [if_pos h2] at h; cases h
      · rw [if_neg h2] at h
        by_cases h3 : D.getD p 0 < 128
        · rw [if_pos h3] at h
          split at h
          · have := ih _ _ _ h
            rw [List.length_append] at this
            omega
          · cases h
        · rw [if_neg h3] at h
          split at h
          · have := ih _ _ _ h
            rw [List.length_append] at this
            omega
          · cases h
    · rw [if_neg h1] at h
      injection h with h
      rw [h]
      exact Nat.le_refl _
theorem apF_eq {B D : List Nat} {N M : Nat} (hNM : N ≤ M) : ∀ n p (ts us : List Nat), us.length ≤ N → (apF B D N n p ts = some us ↔ apF B D M n p ts = some us) := by
  intro n
  induction n with
  | zero => intro p ts us _; exact Iff.rfl
  | succ n ih =>
    intro p ts us hu
    unfold apF
    by_cases h1 : p < D.length
    · rw [if_pos h1, if_pos h1]
      by_cases h2 : D.getD p 0 % 128 = 0
      · rw [if_pos h2, if_pos h2]
      · rw [if_neg h2, if_neg h2]
        by_cases h3 : D.getD p 0 < 128
        · rw [if_pos h3, if_pos h3]
          by_cases h4 : p + 1 + D.getD p 0 ≤ D.length
          · by_cases h5 : ts.length + D.getD p 0 ≤ N
            · rw [if_pos ⟨h4, h5⟩, if_pos ⟨h4, by omega⟩]
              exact ih _ _ _ hu
            · rw [if_neg (fun q => h5 q.2)]
              constructor
              · intro q; cases q
              · intro q
                split at q
                · have := apF_up _ _ _ _ q
                  rw [List.length_append, List.length_take, List.length_drop] at this
                  omega
                · cases q
          · rw [if_neg (fun q => h4 q.1), if_neg (fun q => h4 q.1)]
        · rw [if_neg h3, if_neg h3]
          by_cases h4 : p + 1 < D.length ∧ D.getD (p + 1) 0 + (D.getD p 0 - 128) ≤ B.length
          · by_cases h5 : ts.length + (D.getD p 0 - 128) ≤ N
            · rw [if_pos ⟨h4.1, h4.2, h5⟩, if_pos ⟨h4.1, h4.2, by omega⟩]
              exact ih _ _ _ hu
            · rw [if_neg (fun q => h5 q.2.2)]
              constructor
              · intro q; cases q
              · intro q
                split at q
                · have := apF_up _ _ _ _ q
                  rw [List.length_append, List.length_take, List.length_drop] at this
                  omega
                · cases q
          · rw [if_neg (fun q => h4 ⟨q.1, q.2.1⟩), if_neg (fun q => h4 ⟨q.1, q.2.1⟩)]
    · rw [if_neg h1, if_neg h1]
theorem apF_le {B D : List Nat} {N : Nat} : ∀ n p (ts us : List Nat), ts.length ≤ N → apF B D N n p ts = some us → us.length ≤ N := by
  intro n
  induction n with
  | zero =>
    intro p ts us hl h
    injection h with h
    rw [← h]
    exact hl
  | succ n ih =>
    intro p ts us hl h
    unfold apF at h
    by_cases h1 : p < D.length
    · rw [if_pos h1] at h
      by_cases h2 : D.getD p 0 % 128 = 0
      · rw [if_pos h2] at h; cases h
      · rw [if_neg h2] at h
        by_cases h3 : D.getD p 0 < 128
        · rw [if_pos h3] at h
          split at h
          · rename_i q
            exact ih _ _ _ (by rw [List.length_append, List.length_take, List.length_drop]; omega) h
          · cases h
        · rw [if_neg h3] at h
          split at h
          · rename_i q
            exact ih _ _ _ (by rw [List.length_append, List.length_take, List.length_drop]; omega) h
          · cases h
    · rw [if_neg h1] at h
      injection h with h
      rw [← h]
      exact hl
/-- the reference's way of working a difference out -/
def apR (B D : List Nat) : Option (List Nat) := if 2 ≤ D.length ∧ D.getD 0 0 = B.length ∧ D.getD 1 0 ≤ 24 then match apF B D (D.getD 1 0) (D.length + 1) 2 [] with
  | none => none
  | some ts => if ts.length = D.getD 1 0 then some ts else none
  else none
theorem apR_eq (B D : List Nat) : apR B D = apL B D 24 := by
  unfold apR apL
  by_cases h1 : 2 ≤ D.length
  · by_cases h2 : D.getD 0 0 = B.length
    · rw [if_neg (show ¬ (D.length < 2 ∨ D.getD 0 0 ≠ B.length) from fun q => q.elim (fun z => by omega) (fun z => z h2))]
      by_cases h3 : D.getD 1 0 ≤ 24
      · rw [if_pos ⟨h1, h2, h3⟩]
        cases ha : apF B D (D.getD 1 0) (D.length + 1) 2 [] with
        | some us =>
          have hu := apF_le _ _ _ _ (by simp) ha
          rw [(apF_eq h3 _ _ _ _ hu).mp ha]
        | none =>
          cases hb : apF B D 24 (D.length + 1) 2 [] with
          | none => rfl
          | some us =>
            simp only
            by_cases hu : us.length = D.getD 1 0
            · have := (apF_eq h3 _ _ _ _ (by omega)).mpr hb
              rw [ha] at this
              cases this
            · rw [if_neg hu]
      · rw [if_neg (fun q => h3 q.2.2)]
        cases hb : apF B D 24 (D.length + 1) 2 [] with
        | none => rfl
        | some us =>
          have := apF_le _ _ _ _ (by simp) hb
          simp only
          rw [if_neg (by omega)]
    · rw [if_neg (fun q => h2 q.2.1), if_pos (Or.inr h2)]
  · rw [if_neg (fun q => h1 q.1), if_pos (Or.inl (by omega))]
def SC (t : Nat) (S S1 : vSt) : Prop := SlotCh S S1 t ∧ ∀ b, (S1.2 b).length = (S.2 b).length
theorem SC.rf {t : Nat} {S : vSt} : SC t S S := ⟨⟨rfl, fun _ _ _ _ => rfl, fun _ _ => ⟨rfl, rfl⟩, fun _ _ => rfl⟩, fun _ => rfl⟩
theorem SC.tr {t : Nat} {S S1 S2 : vSt} (h : SC t S S1) (g : SC t S1 S2) : SC t S S2 := ⟨⟨g.1.1.trans h.1.1, fun b q1 q2 q3 => (g.1.2.1 b q1 q2 q3).trans (h.1.2.1 b q1 q2 q3), fun q hq => ⟨(g.1.2.2.1 q hq).1.trans (h.1.2.2.1 q hq).1, (g.1.2.2.1 q hq).2.trans (h.1.2.2.1 q hq).2⟩, fun q hq => (g.1.2.2.2 q hq).trans (h.1.2.2.2 q hq)⟩, fun b => (g.2 b).trans (h.2 b)⟩
theorem SC.len {t : Nat} {S S1 : vSt} (h : SC t S S1) (hL : RLen S) : RLen S1 := hL.of h.2
theorem SC.by {t i : Nat} {S : vSt} {x : Int32} (h1 : 24 * t ≤ i) (h2 : i < 24 * t + 24) : SC t S (au S 254 ((S.2 254).set i x)) := ⟨⟨rfl, fun b _ _ q => au_a _ _ q, fun q _ => ⟨by rw [au_a _ _ (by omega)], by rw [au_a _ _ (by omega)]⟩, fun q hq => by rw [au_at, getD_set_ne (by omega)]⟩, fun b => by
  by_cases q : b = 254
  · subst q; rw [au_at, List.length_set]
  · rw [au_a _ _ q]⟩
theorem SC.kd {t a : Nat} {S : vSt} {x : Int32} (ha : a = 252 ∨ a = 253) : SC t S (au S a ((S.2 a).set t x)) := ⟨⟨rfl, fun b q1 q2 _ => au_a _ _ (by omega), fun q hq => ⟨by
  by_cases z : a = 252
  · subst z; rw [au_at, getD_set_ne (fun w => hq w.symm)]
  · rw [au_a _ _ (by omega)], by
  by_cases z : a = 253
  · subst z; rw [au_at, getD_set_ne (fun w => hq w.symm)]
  · rw [au_a _ _ (by omega)]⟩, fun q hq => by rw [au_a _ _ (by omega)]⟩, fun b => by
  by_cases q : b = a
  · subst q; rw [au_at, List.length_set]
  · rw [au_a _ _ q]⟩
def SB (S : vSt) (t : Nat) (ts : List Nat) : Prop := ∀ j, j < ts.length → (S.2 254).getD (24 * t + j) 0 = nI (ts.getD j 0)
theorem SB.push {S : vSt} {t x : Nat} {ts : List Nat} (h : SB S t ts) (hl : 24 * t + ts.length < (S.2 254).length) : SB (au S 254 ((S.2 254).set (24 * t + ts.length) (nI x))) t (ts ++ [x]) := by
  intro j hj
  rw [List.length_append, List.length_singleton] at hj
  rw [au_at]
  by_cases q : j = ts.length
  · subst q
    rw [getD_set_self hl, List.getD_eq_getElem?_getD, List.getElem?_append_right (Nat.le_refl _), Nat.sub_self]
    rfl
  · rw [getD_set_ne (by omega), h j (by omega), List.getD_eq_getElem?_getD, List.getD_eq_getElem?_getD, List.getElem?_append_left (by omega)]
theorem EB.sc {S S1 : vSt} {t e : Nat} {D : List Nat} (h : EB S e D) (hc : SC t S S1) : EB S1 e D := fun j hj => by rw [hc.1.2.1 _ (by omega) (by omega) (by omega)]; exact h j hj
section REF27
variable {e b kb : Nat} {B D : List Nat}
theorem c_apI {q fr : Nat} {ts X : List Nat} {v4 v7 v8 : Option Value} (pt : Bool) (he : e < 16) (hb57 : b < 57) (hD : D.length ≤ 255) (hne : b ≠ 40 + e) (htl : ts.length + X.length ≤ 24) (h1 : pt = true → ∀ k, k < X.length → q + 1 + k < D.length ∧ X.getD k 0 = D.getD (q + 1 + k) 0) (h2 : pt = false → ∀ k, k < X.length → fr + k < B.length ∧ X.getD k 0 = B.getD (fr + k) 0) : ∀ m k S, k + m = X.length → RLen S → EB S e D → SltIs S b (kb, B) → SB S (40 + e) (ts ++ X.take k) → ∃ S1 v12, runv 62 225 [some (.ref 249), some (.int (nI e)), some (.int (nI b)), some (.int (nI (256 * e + q))), v4, some (.int (nI ts.length)), some (.int (bI true)), v7, v8, some (.int (bI pt)), some (.int (nI X.length)), some (.int (nI fr)), some (.int (nI k))] [] (hp S) = runv 62 295 [some (.ref 249), some (.int (nI e)), some (.int (nI b)), some (.int (nI (256 * e + q))), v4, some (.int (nI ts.length)), some (.int (bI true)), v7, v8, some (.int (bI pt)), some (.int (nI X.length)), some (.int (nI fr)), v12] [] (hp S1) ∧ SB S1 (40 + e) (ts ++ X) ∧ SC (40 + e) S S1 := by
  intro m
  induction m with
  | zero =>
    intro k S hk hL hE hB hS
    rw [List.take_of_length_le (by omega)] at hS
    refine ⟨S, some (.int (nI k)), ?_, hS, SC.rf⟩
    rw [s62_225]
    simp only [s62_227, s62_229]
    rw [if_pos (nI_le (by omega) (by omega))]
  | succ m ih =>
    intro k S hk hL hE hB hS
    have l254 : (S.2 254).length = 1368 := hL.2.2.2.2.1
    have l265 : (S.2 265).length = 4096 := hL.2.2.2.2.2.2.2.2.2.2.2.2.2.2.2.1
    have tl : (ts ++ X.take k).length = ts.length + k := by rw [List.length_append, List.length_take]; omega
    have S1 := hS.push (x := X.getD k 0) (by rw [tl, l254]; omega)
    rw [tl] at S1
    have e1 : ts ++ X.take k ++ [X.getD k 0] = ts ++ X.take (k + 1) := by
      rw [List.append_assoc, List.take_succ, List.getElem?_eq_getElem (show k < X.length by omega), List.getD_eq_getElem?_getD, List.getElem?_eq_getElem (show k < X.length by omega)]
      rfl
    rw [e1] at S1
    have F1 : SC (40 + e) S _ := SC.by (S := S) (t := 40 + e) (i := 24 * (40 + e) + (ts.length + k)) (x := nI (X.getD k 0)) (by omega) (by omega)
    obtain ⟨S2, v12, g1, g2, g3⟩ := ih (k + 1) _ (by omega) (F1.len hL) (hE.sc F1) (hB.ch F1.1 hne) S1
    refine ⟨S2, v12, ?_, g2, F1.tr g3⟩
    rw [← g1, s62_225]
    have nk : ¬ nI X.length ≤ nI k := nI_ge (by omega) (by omega)
    have i40 : (40 : Int32) + nI e = nI (40 + e) := nI_add 40 e
    have w := fun (x : Int32) (K2 : vH → Option (Option Value × vH)) => gs (S := S) (i := 24 * (40 + e) + (ts.length + k)) (x := x) (K2 := K2) (a := 254) rfl l254 (by omega) (by omega)
    cases pt with
    | true =>
      obtain ⟨a1, a2⟩ := h1 rfl k (by omega)
      have hr := hE (q + 1 + k) a1
      have r := fun (K : Value → Option (Option Value × vH)) => ga (S := S) (i := 256 * e + (q + 1 + k)) (K := K) (a := 265) rfl l265 (by omega) (by omega)
      simp only [s62_227, s62_229, s62_232, s62_234, s62_237, s62_238, s62_241, s62_243, s62_245, s62_246, s62_247, s62_248, s62_250, s62_251, s62_253, s62_254, s62_256, s62_259, s62_260, s62_263, s62_264, s62_265, s62_266, s62_268, s62_269, s62_270, s62_273, s62_274, s62_277, s62_279, s62_280, s62_281, s62_283, s62_284, s62_286, s62_287, s62_288, s62_289, s62_292, if_neg nk, if_bI, q5, q23, i40, x24, nI_add, nI_1, show 24 * (40 + e) + ts.length + k = 24 * (40 + e) + (ts.length + k) by omega, show 256 * e + q + 1 + k = 256 * e + (q + 1 + k) by omega, r, hr, ← a2, w, if_true]
    | false =>
      obtain ⟨a1, a2⟩ := h2 rfl k (by omega)
      have hr := hB.2.2.2.1 (fr + k) a1
      simp only at hr
      have hb5 : B.length ≤ 24 := hB.2.2.2.2.1
      have r := fun (K : Value → Option (Option Value × vH)) => ga (S := S) (i := 24 * b + (fr + k)) (K := K) (a := 254) rfl l254 (by omega) (by omega)
      simp only [s62_227, s62_229, s62_232, s62_234, s62_237, s62_238, s62_241, s62_243, s62_245, s62_246, s62_247, s62_248, s62_250, s62_251, s62_253, s62_254, s62_256, s62_259, s62_260, s62_263, s62_264, s62_265, s62_266, s62_268, s62_269, s62_270, s62_273, s62_274, s62_277, s62_279, s62_280, s62_281, s62_283, s62_284, s62_286, s62_287, s62_288, s62_289, s62_292, if_neg nk, if_bI, q5, q23, i40, x24, nI_add, nI_1, show 24 * (40 + e) + ts.length + k = 24 * (40 + e) + (ts.length + k) by omega, show 24 * b + fr + k = 24 * b + (fr + k) by omega, r, hr, ← a2, w, if_true, Bool.false_eq_true, if_false]
end REF27
