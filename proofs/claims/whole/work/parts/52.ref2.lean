/-! the reference: finding, comparing -/
def st0 (s : Nat) : Nat := if s = 0 then 0 else 16
def cap0 (s : Nat) : Nat := if s = 0 then 16 else 24
def Uniq (l : List Obj) : Prop := (l.map (fun o => oid o.1 o.2)).Nodup
/-- a side's objects lie in its slots -/
def SideIs (S : vSt) (s : Nat) (l : List Obj) : Prop := s < 2 ∧ (S.2 251).getD s 0 = nI l.length ∧ l.length ≤ cap0 s ∧ ∀ i o, l[i]? = some o → SltIs S (st0 s + i) o
theorem c_start {h : vH} {s : Nat} (hs : s < 2) : callv 32 [.int (nI s)] h = some (some (.int (nI (st0 s))), h) := by
  show runv 32 0 [some (.int (nI s))] [] h = _
  simp only [s32_0, s32_1, s32_4, s32_5, s32_8, s32_10]
  have hc : s = 0 ∨ s = 1 := by omega
  rcases hc with rfl | rfl
  · rw [if_pos (show nI 0 = 0 from rfl)]; rfl
  · rw [if_neg (show ¬ nI 1 = 0 by decide)]; rfl
def lastI (b : Nat) (id : Int32) : List Obj → Nat → Int32 → Int32
  | [], _, acc => acc
  | o :: t, i, acc => lastI b id t (i + 1) (if nI (oid o.1 o.2) = id then nI (b + i) else acc)
def oJ (b : Nat) (o : Option Nat) : Int32 := match o with
  | some j => nI (b + j)
  | none => -1
theorem fIdx_cons (o : Obj) (t : List Obj) (id : Int32) : fIdx (o :: t) id = if nI (oid o.1 o.2) = id then some 0 else (fIdx t id).map (fun j => j + 1) := by
  unfold fIdx
  rw [List.findIdx?_cons]
  by_cases q : nI (oid o.1 o.2) = id
  · rw [if_pos (decide_eq_true q), if_pos q]
  · rw [if_neg (by simp [q]), if_neg q]
theorem lastI_eq {b : Nat} {id : Int32} : ∀ (l : List Obj) (i : Nat) (acc : Int32), Uniq l → lastI b id l i acc = match fIdx l id with
    | none => acc
    | some j => nI (b + (i + j)) := by
  intro l
  induction l with
  | nil => intro i acc h; rfl
  | cons o t ih =>
    intro i acc h
    unfold Uniq at h
    rw [List.map_cons, List.nodup_cons] at h
    unfold lastI
    rw [ih _ _ h.2, fIdx_cons]
    by_cases q : nI (oid o.1 o.2) = id
    · rw [if_pos q, if_pos q]
      have hn : fIdx t id = none := by
        rw [← q]
        have := oid_lt o.1 o.2
        rw [fIdx_none (by omega)]
        intro g hg e
        exact h.1 (List.mem_map.mpr ⟨g, hg, e⟩)
      rw [hn]
      rfl
    · rw [if_neg q, if_neg q]
      cases fIdx t id with
      | none => rfl
      | some j => simp only [Option.map_some]; rw [show i + 1 + j = i + (j + 1) by omega]
section REF2
variable {S : vSt} {s : Nat} {l : List Obj}
theorem c_rfind_loop (hL : RLen S) (h : SideIs S s l) {id : Int32} : ∀ k i acc, i + k = l.length → runv 33 8 [some (.ref 249), some (.int (nI s)), some (.int id), some (.int acc), some (.int (nI (st0 s + i)))] [] (hp S) = some (some (.int (lastI (st0 s) id (l.drop i) i acc)), hp S) := by
  obtain ⟨h1, h2, h3, h4⟩ := h
  have hc : cap0 s ≤ 24 ∧ st0 s ≤ 16 := by unfold cap0 st0; split <;> omega
  have tq := qt (S := S)
  intro k
  induction k with
  | zero =>
    intro i acc hi
    rw [s33_8]
    simp only [s33_0, s33_1, s33_2, s33_3, s33_6, s33_10, s33_11, s33_14, s33_15, s33_18, s33_19, s33_20, s33_21, s33_24, s33_25, s33_27, s33_30, s33_31, s33_34, s33_36, s33_39, s33_40, s33_41, s33_44, s33_47, s33_48, q2, g251 hL h1, h2, List.length_cons, List.length_nil, Nat.reduceAdd, Nat.reduceLeDiff, Nat.zero_le, c_start h1, vbind_some, vpush_some, nI_add]
    rw [if_pos (nI_le (by omega) (by omega)), List.drop_of_length_le (by omega)]
    rfl
  | succ k ih =>
    intro i acc hi
    have hil : i < l.length := by omega
    have hsl := h4 i _ (List.getElem?_eq_getElem hil)
    rw [s33_8]
    simp only [s33_0, s33_1, s33_2, s33_3, s33_6, s33_10, s33_11, s33_14, s33_15, s33_18, s33_19, s33_20, s33_21, s33_24, s33_25, s33_27, s33_30, s33_31, s33_34, s33_36, s33_39, s33_40, s33_41, s33_44, s33_47, s33_48, q2, g251 hL h1, h2, List.length_cons, List.length_nil, Nat.reduceAdd, Nat.reduceLeDiff, Nat.zero_le, tq, c_start h1, c_idOf hL hsl, vbind_some, vpush_some, nI_add, nI_1]
    rw [if_neg (nI_ge (by omega) (by omega)), List.drop_eq_getElem_cons hil]
    show (if nI (oid l[i].1 l[i].2) = id then _ else _) = some (some (Value.int (lastI (st0 s) id (l.drop (i + 1)) (i + 1) (if nI (oid l[i].1 l[i].2) = id then nI (st0 s + i) else acc))), hp S)
    by_cases q : nI (oid l[i].1 l[i].2) = id
    · rw [if_pos q, if_pos q]
      exact ih (i + 1) _ (by omega)
    · rw [if_neg q, if_neg q]
      exact ih (i + 1) _ (by omega)
theorem c_rfind (hL : RLen S) (h : SideIs S s l) (hu : Uniq l) (id : Int32) : callv 33 [.ref 249, .int (nI s), .int id] (hp S) = some (some (.int (oJ (st0 s) (fIdx l id))), hp S) := by
  have e := c_rfind_loop hL h (id := id) l.length 0 (-1) (by omega)
  rw [List.drop_zero, lastI_eq _ _ _ hu, Nat.add_zero] at e
  have e2 : (match fIdx l id with
    | none => (-1 : Int32)
    | some j => nI (st0 s + (0 + j))) = oJ (st0 s) (fIdx l id) := by
    unfold oJ
    cases fIdx l id with
    | none => rfl
    | some j => simp only [Nat.zero_add]
  rw [e2] at e
  rw [← e]
  show runv 33 0 [some (.ref 249), some (.int (nI s)), some (.int id), none, none] [] (hp S) = _
  simp only [s33_0, s33_1, s33_2, s33_3, s33_6, List.length_cons, List.length_nil, Nat.reduceAdd, Nat.reduceLeDiff, Nat.zero_le, c_start h.1, vbind_some, vpush_some]
end REF2
section REF2b
variable {S : vSt} {i j : Nat} {o p : Obj}
theorem c_same_loop (hL : RLen S) (h : SltIs S i o) (h' : SltIs S j p) : ∀ k q (b : Bool), q + k = 24 → (b = true → o.2.length = p.2.length) → ∃ c : Bool, (c = true ↔ b = true ∧ ∀ r, q ≤ r → r < o.2.length → o.2.getD r 0 = p.2.getD r 0) ∧ runv 34 39 [some (.ref 249), some (.int (nI i)), some (.int (nI j)), some (.int (bI b)), some (.int (nI q))] [] (hp S) = some (some (.int (bI c)), hp S) := by
  obtain ⟨h1, h2, h3, h4, h5, h6, h7, h8⟩ := h
  obtain ⟨k1, k2, k3, k4, k5, k6, k7, k8⟩ := h'
  intro k
  induction k with
  | zero =>
    intro q b hq hb
    refine ⟨b, ⟨fun z => ⟨z, fun r hr hl => by omega⟩, fun z => z.1⟩, ?_⟩
    rw [s34_39]
    simp only [s34_41, s34_43, s34_100, s34_101, bI_and]
    rw [if_pos (show (24 : Int32) ≤ nI q from nI_le (a := 24) (by omega) (by omega))]
  | succ k ih =>
    intro q b hq hb
    have hlt : ¬ (24 : Int32) ≤ nI q := nI_ge (b := 24) (by omega) (by omega)
    have step : ∀ b2 : Bool, runv 34 93 [some (.ref 249), some (.int (nI i)), some (.int (nI j)), some (.int (bI b)), some (.int (nI q))] [.int (bI b2)] (hp S) = runv 34 39 [some (.ref 249), some (.int (nI i)), some (.int (nI j)), some (.int (bI b2)), some (.int (nI (q + 1)))] [] (hp S) := fun b2 => by
      simp only [s34_93, s34_94, s34_97, nI_1]
    cases b with
    | false =>
      obtain ⟨c, c1, c2⟩ := ih (q + 1) false (by omega) (fun z => by cases z)
      refine ⟨c, ⟨fun z => ?_, fun z => ?_⟩, ?_⟩
      · have := (c1.mp z).1; cases this
      · have := z.1; cases this
      · rw [s34_39]
        simp only [s34_41, s34_43, s34_46, s34_47]
        rw [if_neg hlt, if_pos (show bI false = 0 from rfl)]
        simp only [s34_92]
        exact (step false).trans c2
    | true =>
      have hle := hb rfl
      by_cases hql : o.2.length ≤ q
      · obtain ⟨c, c1, c2⟩ := ih (q + 1) true (by omega) hb
        refine ⟨c, ⟨fun z => ⟨rfl, fun r hr hl => by omega⟩, fun z => c1.mpr ⟨rfl, fun r hr hl => by omega⟩⟩, ?_⟩
        rw [s34_39]
        simp only [s34_41, s34_43, s34_46, s34_47, s34_50, s34_52, s34_53, s34_56, s34_57, s34_58, q4, g253 hL h1, h3]
        rw [if_neg hlt, if_neg (show ¬ bI true = 0 by decide), if_pos (nI_le hql (by omega))]
        simp only [s34_88, s34_89]
        exact (step true).trans c2
      · have x1 := h4 q (by omega)
        have x2 := k4 q (by omega)
        have y1 := getD_lt h6 q
        have y2 := getD_lt k6 q
        obtain ⟨c, c1, c2⟩ := ih (q + 1) (decide (o.2.getD q 0 = p.2.getD q 0)) (by omega) (fun _ => hle)
        refine ⟨c, ?_, ?_⟩
        · rw [c1, decide_eq_true_eq]
          constructor
          · rintro ⟨z1, z2⟩
            refine ⟨rfl, fun r hr hl => ?_⟩
            by_cases w : r = q
            · subst w; exact z1
            · exact z2 r (by omega) hl
          · rintro ⟨-, z2⟩
            exact ⟨z2 q (by omega) (by omega), fun r hr hl => z2 r (by omega) hl⟩
        · rw [s34_39]
          simp only [s34_41, s34_43, s34_46, s34_47, s34_50, s34_52, s34_53, s34_56, s34_57, s34_58, s34_61, s34_62, s34_65, s34_67, s34_68, s34_69, s34_71, s34_72, s34_73, s34_74, s34_77, s34_79, s34_80, s34_81, s34_83, s34_84, s34_85, s34_88, s34_89, q4, q5, g253 hL h1, h3, x24, nI_add, g254 hL (show 24 * i + q < 1368 by omega), g254 hL (show 24 * j + q < 1368 by omega), x1, x2, nI_inj (show o.2.getD q 0 < 2 ^ 31 by omega) (show p.2.getD q 0 < 2 ^ 31 by omega)]
          rw [if_neg hlt, if_neg (show ¬ bI true = 0 by decide), if_neg (nI_ge (by omega) (by omega))]
          by_cases w : o.2.getD q 0 = p.2.getD q 0
          · rw [if_pos w]
            rw [decide_eq_true w] at c2
            exact (step true).trans c2
          · rw [if_neg w]
            rw [decide_eq_false w] at c2
            simp only [s34_92]
            exact (step false).trans c2
theorem c_rsame (hL : RLen S) (h : SltIs S i o) (h' : SltIs S j p) : callv 34 [.ref 249, .int (nI i), .int (nI j)] (hp S) = some (some (.int (bI (decide (o = p)))), hp S) := by
  obtain ⟨c, c1, c2⟩ := c_same_loop hL h h' 24 0 (decide (o.1 = p.1 ∧ o.2.length = p.2.length)) (by omega) (fun z => (of_decide_eq_true z).2)
  have hc : c = decide (o = p) := by
    rw [Bool.eq_iff_iff, c1, decide_eq_true_eq, decide_eq_true_eq]
    constructor
    · rintro ⟨⟨z1, z2⟩, z3⟩
      refine Prod.ext z1 (List.ext_getElem z2 (fun r hr1 hr2 => ?_))
      have := z3 r (by omega) hr1
      rw [List.getD_eq_getElem?_getD, List.getD_eq_getElem?_getD, List.getElem?_eq_getElem hr1, List.getElem?_eq_getElem hr2] at this
      exact this
    · rintro rfl
      exact ⟨⟨rfl, rfl⟩, fun r hr hl => rfl⟩
  obtain ⟨h1, h2, h3, h4, h5, h6, h7, h8⟩ := h
  obtain ⟨k1, k2, k3, k4, k5, k6, k7, k8⟩ := h'
  rw [← hc, ← c2]
  show runv 34 0 [some (.ref 249), some (.int (nI i)), some (.int (nI j)), none, none] [] (hp S) = _
  simp only [s34_0, s34_1, s34_4, s34_5, s34_6, s34_7, s34_10, s34_11, s34_12, s34_15, s34_16, s34_19, s34_20, s34_21, s34_22, s34_25, s34_26, s34_27, s34_30, s34_31, s34_34, s34_35, s34_36, s34_37, q3, q4, g252 hL h1, g252 hL k1, g253 hL h1, g253 hL k1, h2, h3, k2, k3, nI_inj (show o.1 < 2 ^ 31 by omega) (show p.1 < 2 ^ 31 by omega), nI_inj (show o.2.length < 2 ^ 31 by omega) (show p.2.length < 2 ^ 31 by omega)]
  by_cases w1 : o.1 = p.1
  · rw [if_pos w1]
    by_cases w2 : o.2.length = p.2.length
    · rw [if_pos w2, decide_eq_true ⟨w1, w2⟩]
      rfl
    · rw [if_neg w2, decide_eq_false (fun z => w2 z.2)]
      rfl
  · rw [if_neg w1, decide_eq_false (fun z => w1 z.1)]
    rfl
end REF2b
