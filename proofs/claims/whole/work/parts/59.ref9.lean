/-! the reference: slots copied, store -/
theorem au_au {S : vSt} {a : Nat} {l m : List Int32} : au (au S a l) a m = au S a m := by
  refine Prod.ext rfl ?_
  funext b
  by_cases h : b = a
  · subst h; rw [au_at, au_at]
  · rw [au_a _ _ h, au_a _ _ h, au_a _ _ h]
section REF9
variable {S : vSt} {i t : Nat} {o : Obj}
theorem c_rcopy_loop (hi : i < 57) (ht : t < 57) (hne : t ≠ i) : ∀ k j Y, j + k = 24 → Y.length = 1368 → ∃ Y' : List Int32, runv 41 26 [some (.ref 249), some (.int (nI i)), some (.int (nI t)), some (.int (nI j))] [] (hp (au S 254 Y)) = some (none, hp (au S 254 Y')) ∧ Y'.length = 1368 ∧ (∀ q, ¬ (24 * t + j ≤ q ∧ q < 24 * t + 24) → Y'.getD q 0 = Y.getD q 0) ∧ ∀ r, j ≤ r → r < 24 → Y'.getD (24 * t + r) 0 = Y.getD (24 * i + r) 0 := by
  intro k
  induction k with
  | zero =>
    intro j Y hj hY
    refine ⟨Y, ?_, hY, fun _ _ => rfl, fun r h1 h2 => by omega⟩
    rw [s41_26]
    simp only [s41_27, s41_29, s41_60]
    rw [if_pos (show (24 : Int32) ≤ nI j from nI_le (a := 24) (by omega) (by omega))]
  | succ k ih =>
    intro j Y hj hY
    obtain ⟨Y', g1, g2, g3, g4⟩ := ih (j + 1) (Y.set (24 * t + j) (Y.getD (24 * i + j) 0)) (by omega) (by rw [List.length_set, hY])
    refine ⟨Y', ?_, g2, fun q hq => ?_, fun r h1 h2 => ?_⟩
    · rw [← g1, s41_26]
      have e1 := fun (K : Value → Option (Option Value × vH)) => ga (S := au S 254 Y) (i := 24 * i + j) (K := K) (a := 254) rfl (by rw [au_at, hY]) (show 24 * i + j < 1368 by omega) (by omega)
      have e2 := fun (x : Int32) (K2 : vH → Option (Option Value × vH)) => gs (S := au S 254 Y) (i := 24 * t + j) (x := x) (K2 := K2) (a := 254) rfl (by rw [au_at, hY]) (show 24 * t + j < 1368 by omega) (by omega)
      rw [au_at] at e1
      simp only [au_at, au_au] at e2
      simp only [s41_27, s41_29, s41_32, s41_33, s41_36, s41_38, s41_39, s41_40, s41_41, s41_42, s41_43, s41_46, s41_48, s41_49, s41_50, s41_51, s41_52, s41_53, s41_54, s41_57, q5, x24, nI_add, e1, e2, nI_1]
      rw [if_neg (show ¬ (24 : Int32) ≤ nI j from nI_ge (b := 24) (by omega) (by omega))]
    · rw [g3 q (by omega), getD_set_ne (by omega)]
    · by_cases w : r = j
      · subst w
        rw [g3 _ (by omega), getD_set_self (by omega)]
      · rw [g4 r (by omega) h2, getD_set_ne (by omega)]
/-- only the slot t changes -/
def SlotCh (S S1 : vSt) (t : Nat) : Prop := S1.1 = S.1 ∧ (∀ b, b ≠ 252 → b ≠ 253 → b ≠ 254 → S1.2 b = S.2 b) ∧ (∀ q, q ≠ t → (S1.2 252).getD q 0 = (S.2 252).getD q 0 ∧ (S1.2 253).getD q 0 = (S.2 253).getD q 0) ∧ ∀ q, ¬ (24 * t ≤ q ∧ q < 24 * t + 24) → (S1.2 254).getD q 0 = (S.2 254).getD q 0
theorem SltIs.ch {S S1 : vSt} {t q : Nat} {o : Obj} (h : SltIs S q o) (hc : SlotCh S S1 t) (hq : q ≠ t) : SltIs S1 q o := by
  obtain ⟨h1, h2, h3, h4, h5, h6, h7, h8⟩ := h
  obtain ⟨c1, c2, c3, c4⟩ := hc
  exact ⟨h1, by rw [(c3 q hq).1, h2], by rw [(c3 q hq).2, h3], fun j hj => by rw [c4 _ (by omega), h4 j hj], h5, h6, h7, h8⟩
theorem c_rcopy (hL : RLen S) (h : SltIs S i o) (ht : t < 57) (hne : t ≠ i) : ∃ S1, callv 41 [.ref 249, .int (nI i), .int (nI t)] (hp S) = some (none, hp S1) ∧ SltIs S1 t o ∧ SlotCh S S1 t := by
  have h0 := h
  obtain ⟨h1, h2, h3, h4, h5, h6, h7, h8⟩ := h
  have l2 := hL.2.2.1
  have l3 := hL.2.2.2.1
  have l4 := hL.2.2.2.2.1
  generalize hA : au (au S 252 ((S.2 252).set t (nI o.1))) 253 ((S.2 253).set t (nI o.2.length)) = A
  have a4 : A.2 254 = S.2 254 := by rw [← hA, au_a _ _ (by omega), au_a _ _ (by omega)]
  have a2 : A.2 252 = (S.2 252).set t (nI o.1) := by rw [← hA, au_a _ _ (by omega), au_at]
  have a3 : A.2 253 = (S.2 253).set t (nI o.2.length) := by rw [← hA, au_at]
  have aS : au A 254 (S.2 254) = A := au_self a4
  obtain ⟨Y', g1, g2, g3, g4⟩ := c_rcopy_loop (S := A) h1 ht hne 24 0 (S.2 254) (by omega) l4
  rw [aS] at g1
  refine ⟨au A 254 Y', ?_, ⟨ht, ?_, ?_, fun j hj => ?_, h5, h6, h7, h8⟩, ?_, fun b b1 b2 b3 => ?_, fun q hq => ⟨?_, ?_⟩, fun q hq => ?_⟩
  · rw [← g1]
    have e1 := fun (K : Value → Option (Option Value × vH)) => ga (S := S) (i := i) (K := K) (a := 252) rfl l2 h1 (by omega)
    have e2 := fun (x : Int32) (K2 : vH → Option (Option Value × vH)) => gs (S := S) (i := t) (x := x) (K2 := K2) (a := 252) rfl l2 ht (by omega)
    have e3 := fun (K : Value → Option (Option Value × vH)) => ga (S := au S 252 ((S.2 252).set t (nI o.1))) (i := i) (K := K) (a := 253) rfl (by rw [au_a _ _ (by omega), l3]) h1 (by omega)
    have e4 := fun (x : Int32) (K2 : vH → Option (Option Value × vH)) => gs (S := au S 252 ((S.2 252).set t (nI o.1))) (i := t) (x := x) (K2 := K2) (a := 253) rfl (by rw [au_a _ _ (by omega), l3]) ht (by omega)
    have n253 : (au S 252 ((S.2 252).set t (nI o.1))).2 253 = S.2 253 := au_a _ _ (by omega)
    rw [n253] at e3
    simp only [n253] at e4
    show runv 41 0 [some (.ref 249), some (.int (nI i)), some (.int (nI t)), none] [] (hp S) = _
    simp only [s41_0, s41_1, s41_4, s41_5, s41_6, s41_9, s41_10, s41_11, s41_12, s41_13, s41_16, s41_17, s41_18, s41_21, s41_22, s41_23, s41_24, s41_25, q3, q4, e1, e2, h2, e3, e4, h3, hA]
    rfl
  · rw [au_a _ _ (by omega), a2, getD_set_self (by omega)]
  · rw [au_a _ _ (by omega), a3, getD_set_self (by omega)]
  · rw [au_at, g4 j (by omega) (by omega), h4 j hj]
  · rw [au_1, ← hA, au_1, au_1]
  · rw [au_a _ _ b3, ← hA, au_a _ _ b2, au_a _ _ b1]
  · rw [au_a _ _ (by omega), a2, getD_set_ne (fun z => hq z.symm)]
  · rw [au_a _ _ (by omega), a3, getD_set_ne (fun z => hq z.symm)]
  · rw [au_at, g3 q (by omega)]
/-- the buffer goes into slot 56 -/
theorem c_rfill_loop {bs : List Nat} {v2 v4 v5 v6 : Option Value} {kk : Int32} (hB : S.1 249 1 = nI bs.length) (hl : bs.length ≤ 24) (hg : ∀ j, j < bs.length → (S.2 250).getD j 0 = nI (bs.getD j 0)) (hl0 : (S.2 250).length = 640) : ∀ k j Y, j + k = bs.length → Y.length = 1368 → ∃ Y' : List Int32, runv 40 48 [some (.ref 249), some (.int kk), v2, some (.int (nI j)), v4, v5, v6] [] (hp (au S 254 Y)) = runv 40 78 [some (.ref 249), some (.int kk), v2, some (.int (nI bs.length)), v4, v5, v6] [] (hp (au S 254 Y')) ∧ Y'.length = 1368 ∧ (∀ q, ¬ (1344 + j ≤ q) → Y'.getD q 0 = Y.getD q 0) ∧ ∀ r, j ≤ r → r < bs.length → Y'.getD (1344 + r) 0 = nI (bs.getD r 0) := by
  have e0 : ∀ Y, (au S 254 Y).1 249 1 = nI bs.length := fun Y => hB
  have e1 : ∀ Y, (au S 254 Y).2 250 = S.2 250 := fun Y => au_a _ _ (by omega)
  intro k
  induction k with
  | zero =>
    intro j Y hj hY
    have : j = bs.length := by omega
    subst this
    refine ⟨Y, ?_, hY, fun _ _ => rfl, fun r h1 h2 => by omega⟩
    rw [s40_48]
    simp only [s40_49, s40_50, s40_53, q1, e0]
    rw [if_pos (nI_le (Nat.le_refl _) (by omega))]
  | succ k ih =>
    intro j Y hj hY
    obtain ⟨Y', g1, g2, g3, g4⟩ := ih (j + 1) (Y.set (1344 + j) (nI (bs.getD j 0))) (by omega) (by rw [List.length_set, hY])
    refine ⟨Y', ?_, g2, fun q hq => ?_, fun r h1 h2 => ?_⟩
    · rw [← g1, s40_48]
      have e2 := fun (K : Value → Option (Option Value × vH)) => ga (S := au S 254 Y) (i := j) (K := K) (a := 250) rfl (by rw [e1, hl0]) (show j < 640 by omega) (by omega)
      have e3 := fun (x : Int32) (K2 : vH → Option (Option Value × vH)) => gs (S := au S 254 Y) (i := 1344 + j) (x := x) (K2 := K2) (a := 254) rfl (by rw [au_at, hY]) (show 1344 + j < 1368 by omega) (by omega)
      rw [e1, hg j (by omega)] at e2
      simp only [au_at, au_au] at e3
      simp only [s40_49, s40_50, s40_53, s40_56, s40_57, s40_60, s40_63, s40_64, s40_65, s40_66, s40_69, s40_70, s40_71, s40_72, s40_75, q0, q1, q5, e0, show (1344 : Int32) = nI 1344 from rfl, nI_add, e2, e3, nI_1]
      rw [if_neg (nI_ge (by omega) (by omega))]
    · rw [g3 q (by omega), getD_set_ne (by omega)]
    · by_cases w : r = j
      · subst w
        rw [g3 _ (by omega), getD_set_self (by omega)]
      · rw [g4 r (by omega) h2]
end REF9
