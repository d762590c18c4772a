/-! the reference: unmark, closure -/
theorem c_unmark_loop {S : vSt} (hl : (S.2 255).length = 40) : ∀ k i, i + k = 40 → ∀ l : List Int32, l.length = 40 → (∀ j, j < i → l.getD j 0 = 0) → ∃ l', runv 39 2 [some (.ref 249), some (.int (nI i))] [] (hp (au S 255 l)) = some (none, hp (au S 255 l')) ∧ l'.length = 40 ∧ ∀ j, j < 40 → l'.getD j 0 = 0 := by
  intro k
  induction k with
  | zero =>
    intro i hi l h1 h2
    refine ⟨l, ?_, h1, fun j hj => h2 j (by omega)⟩
    rw [s39_2]
    simp only [s39_3, s39_5, s39_21]
    rw [if_pos (show (40 : Int32) ≤ nI i from nI_le (a := 40) (by omega) (by omega))]
  | succ k ih =>
    intro i hi l h1 h2
    obtain ⟨l', g1, g2⟩ := ih (i + 1) (by omega) (l.set i 0) (by rw [List.length_set, h1]) (fun j hj => by
      by_cases q : j = i
      · subst q; exact getD_set_self (by omega)
      · rw [getD_set_ne (fun z => q z.symm)]; exact h2 j (by omega))
    refine ⟨l', ?_, g2⟩
    rw [← g1, s39_2]
    simp only [s39_3, s39_5, s39_8, s39_9, s39_12, s39_13, s39_14, s39_15, s39_18, q6, vb0, gbs (S := au S 255 l) (x := 0) rfl (show ((au S 255 l).2 255).length = 40 by rw [au_at]; exact h1) (show i < 40 by omega) (by omega), nI_1, au_at, au_au]
    rw [if_neg (show ¬ (40 : Int32) ≤ nI i from nI_ge (b := 40) (by omega) (by omega))]
theorem c_unmark {S : vSt} (hL : RLen S) : ∃ S1, callv 39 [.ref 249] (hp S) = some (none, hp S1) ∧ MkIs S1 (fun _ => false) ∧ CFr S S1 := by
  have h5 := hL.2.2.2.2.2.1
  obtain ⟨l', g1, g2, g3⟩ := c_unmark_loop h5 40 0 (by omega) (S.2 255) h5 (fun j hj => by omega)
  rw [au_self rfl] at g1
  refine ⟨au S 255 l', ?_, ⟨by rw [au_at]; exact g2, fun j hj => by rw [au_at]; exact g3 j hj⟩, ⟨fun _ _ _ => rfl, fun b q => au_a _ _ q, by rw [au_at, g2, h5]⟩⟩
  rw [← g1]
  show runv 39 0 [some (.ref 249), none] [] (hp S) = _
  simp only [s39_0, s39_1]
  rfl
def cntF (f : Nat → Bool) : Nat → Nat
  | 0 => 0
  | n + 1 => if f n = true then cntF f n + 1 else cntF f n
theorem cntF_le (f : Nat → Bool) : ∀ n, cntF f n ≤ n := by
  intro n
  induction n with
  | zero => exact Nat.le_refl _
  | succ n ih =>
    unfold cntF
    split <;> omega
theorem c_closure_loop {S : vSt} {f : Nat → Bool} {w : Bool} {v1 v2 v3 : Option Value} (hM : MkIs S f) (h7 : S.1 249 7 = bI w) : ∀ k i, i + k = 40 → runv 73 29 [some (.ref 249), v1, v2, v3, some (.int (nI (cntF f i))), some (.int (nI i))] [] (hp S) = some (some (.int (if w = true then nI (cntF f 40) else -1)), hp S) := by
  intro k
  induction k with
  | zero =>
    intro i hi
    rw [s73_29]
    simp only [s73_31, s73_33, s73_63, s73_64, s73_67, s73_70, s73_72, s73_75, s73_76, q7, h7, if_bI]
    rw [if_pos (show (40 : Int32) ≤ nI i from nI_le (a := 40) (by omega) (by omega)), show i = 40 by omega]
    cases w <;> rfl
  | succ k ih =>
    intro i hi
    rw [← ih (i + 1) (by omega), s73_29]
    simp only [s73_31, s73_33, s73_36, s73_37, s73_40, s73_42, s73_43, s73_46, s73_48, s73_49, s73_50, s73_53, s73_55, s73_57, s73_60, q6, gb rfl hM.1 (show i < 40 by omega) (by omega), hM.2 i (by omega), if_bI, nI_1]
    rw [if_neg (show ¬ (40 : Int32) ≤ nI i from nI_ge (b := 40) (by omega) (by omega))]
    show _ = runv 73 29 [some (.ref 249), v1, v2, v3, some (.int (nI (if f i = true then cntF f i + 1 else cntF f i))), some (.int (nI (i + 1)))] [] (hp S)
    split <;> rfl
section REF12
variable {S : vSt} {bs : List Nat} {os cs : List Obj} {rf wn hv : List Int32}
def cloR (s : Nat) (l : List Obj) (id : Int32) : Int32 := match fIdx l id with
  | none => -1
  | some p => if (cls l (st0 s) (fun _ => false) p).2.1 = true then nI (cntF (cls l (st0 s) (fun _ => false) p).1 40) else -1
theorem c_rclosure {s : Nat} {l : List Obj} {m : Mst} (h : ModIs S m) (hS : SideIs S s l) (hu : Uniq l) (hw : ∀ o ∈ l, wfO o.1 o.2) (id : Int32) (hseek : callv 69 [.ref 249, .int (nI s), .int id] (hp S) = some (some (.int (oJ (st0 s) (fIdx l id))), hp S)) : RMeth S 73 [.int (nI s), .int id] (cloR s l id) m := by
  have tq := qt (S := S)
  have hL := h.1
  have hc : cap0 s ≤ 24 ∧ st0 s ≤ 16 ∧ st0 s + cap0 s ≤ 40 := by unfold cap0 st0; split <;> omega
  have hle := hS.2.2.1
  have st : callv 73 [.ref 249, .int (nI s), .int id] (hp S) = if 0 ≤ oJ (st0 s) (fIdx l id) then runv 73 13 [some (.ref 249), some (.int (nI s)), some (.int id), some (.int (oJ (st0 s) (fIdx l id))), none, none] [] (hp S) else some (some (.int (-1)), hp S) := by
    show runv 73 0 [some (.ref 249), some (.int (nI s)), some (.int id), none, none, none] [] (hp S) = _
    simp only [s73_0, s73_1, s73_2, s73_3, s73_6, s73_7, s73_8, s73_11, s73_12, List.length_cons, List.length_nil, Nat.reduceAdd, Nat.reduceLeDiff, Nat.zero_le, tq, hseek, vbind_some, vpush_some]
  unfold cloR
  cases hf : fIdx l id with
  | none =>
    rw [hf, if_neg (show ¬ (0 : Int32) ≤ oJ (st0 s) none from (by decide : ¬ (0 : Int32) ≤ -1))] at st
    exact ⟨S, st, h, Agr.rf⟩
  | some p =>
    have hp0 := fIdx_lt hf
    rw [hf, if_pos (show 0 ≤ oJ (st0 s) (some p) from nI_pos' (by omega))] at st
    obtain ⟨S1, g1, g2, g3⟩ := c_unmark hL
    have tq1 := qt (S := S1)
    obtain ⟨S2, k1, k2, k3, k4⟩ := c_rclose hu hw (g3.len hL) (g3.side hS) g2 hp0
    have hF := g3.tr k4
    refine ⟨S2, ?_, hF.mod h, hF.agr⟩
    rw [st]
    have e := c_closure_loop (v1 := some (.int (nI s))) (v2 := some (.int id)) (v3 := some (.int (nI (st0 s + p)))) k2 k3 40 0 (by omega)
    simp only [s73_13, s73_14, s73_17, s73_18, s73_19, s73_20, s73_23, s73_24, s73_26, s73_27, oJ, List.length_cons, List.length_nil, Nat.reduceAdd, Nat.reduceLeDiff, Nat.zero_le, tq, tq1, g1, k1, vbind_some, vpush_none]
    exact e
theorem w_closure (h : ModIs S (bs, os, cs, rf, wn, hv)) (u0 : Uniq os) (u1 : Uniq cs) (w0 : ∀ o ∈ os, wfO o.1 o.2) (w1 : ∀ o ∈ cs, wfO o.1 o.2) (s id : Int32) : RMeth S 73 [.int s, .int id] (if s = 0 then cloR 0 os id else if s = 1 then cloR 1 cs id else -1) (bs, os, cs, rf, wn, hv) := by
  have tq := qt (S := S)
  have hL := h.1
  have h5 : SideIs S 0 os := h.2.2.2.2.1
  have h6 : SideIs S 1 cs := h.2.2.2.2.2.1
  have st : callv 69 [.ref 249, .int s, .int id] (hp S) = if decide (0 ≤ s ∧ s ≤ 1) = true then vbind (callv 33 [.ref 249, .int s, .int id] (hp S)) (fun v h' => runv 69 15 [some (.ref 249), some (.int s), some (.int id)] (vpush v []) h') else some (some (.int (-1)), hp S) := by
    show runv 69 0 [some (.ref 249), some (.int s), some (.int id)] [] (hp S) = _
    simp only [s69_0, s69_1, s69_2, s69_3, s69_6, s69_9, s69_10, s69_11, s69_12, s69_18, s69_19, List.length_cons, List.length_nil, Nat.reduceAdd, Nat.reduceLeDiff, Nat.zero_le, tq, c_in, vbind_some, vpush_some, if_bI]
  have key : ∀ (n : Nat) (l : List Obj), n < 2 → SideIs S n l → Uniq l → callv 69 [.ref 249, .int (nI n), .int id] (hp S) = vbind (callv 33 [.ref 249, .int (nI n), .int id] (hp S)) (fun v h' => runv 69 15 [some (.ref 249), some (.int (nI n)), some (.int id)] (vpush v []) h') → callv 69 [.ref 249, .int (nI n), .int id] (hp S) = some (some (.int (oJ (st0 n) (fIdx l id))), hp S) := by
    intro n l hn hS hu e
    rw [e, c_rfind hL hS hu]
    simp only [vbind_some, vpush_some, s69_15, s69_18, s69_19]
  by_cases z0 : s = 0
  · rw [if_pos z0]
    rw [if_pos (decide_eq_true (in01.mpr (Or.inl z0)))] at st
    subst z0
    exact c_rclosure (s := 0) h h5 u0 w0 id (key 0 os (by omega) h5 u0 st)
  · rw [if_neg z0]
    by_cases z1 : s = 1
    · rw [if_pos z1]
      rw [if_pos (decide_eq_true (in01.mpr (Or.inr z1)))] at st
      subst z1
      exact c_rclosure (s := 1) h h6 u1 w1 id (key 1 cs (by omega) h6 u1 st)
    · rw [if_neg z1]
      rw [if_neg (by rw [decide_eq_false (fun z => (in01.mp z).elim z0 z1)]; decide)] at st
      refine ⟨S, ?_, h, Agr.rf⟩
      show runv 73 0 [some (.ref 249), some (.int s), some (.int id), none, none, none] [] (hp S) = _
      simp only [s73_0, s73_1, s73_2, s73_3, s73_6, s73_7, s73_8, s73_11, s73_12, List.length_cons, List.length_nil, Nat.reduceAdd, Nat.reduceLeDiff, Nat.zero_le, tq, st, vbind_some, vpush_some]
      rw [if_neg (by decide)]
end REF12
