/-! working out: whole entries, bases -/
abbrev Wk : Type := List (Option Obj)
def wk0 (en : Ent) : Option Obj := if en.2.1 ≤ 3 then some (en.2.1, en.2.2.2.2) else none
def OneWk (S : vSt) (e : Nat) (w : Option Obj) : Prop := S.1 (153 + 6 * e) 6 = bI w.isSome ∧ ∀ o, w = some o → ItemIs S (156 + 6 * e) (157 + 6 * e) (158 + 6 * e) o.1 o.2
def PI (e : Nat) : Nat → Nat → Prop := fun b j => (b = 153 + 6 * e ∧ j = 6) ∨ b = 156 + 6 * e ∨ b = 157 + 6 * e
def AI (e : Nat) : Nat → Prop := fun b => b = 158 + 6 * e
theorem EntIs.fr2 {S S1 : vSt} {P : Nat → Nat → Prop} {A : Nat → Prop} {e : Nat} {en : Ent} (h : EntIs S e en) (hf : Fr S S1 P A) (h1 : ∀ j, j ≤ 5 → ¬ P (153 + 6 * e) j) (h2 : ¬ P (154 + 6 * e) 1) (h3 : ¬ A (155 + 6 * e)) : EntIs S1 e en := by
  obtain ⟨g1, g2, g3, g4, g5⟩ := h
  exact ⟨by rw [hf.1 _ _ (h1 2 (by omega)), g1], by rw [hf.1 _ _ (h1 3 (by omega)), g2], by rw [hf.1 _ _ (h1 4 (by omega)), g3], fun q => by rw [hf.1 _ _ (h1 5 (by omega)), g4 q], g5.fr hf h2 h3⟩
theorem EntIs.wk {S S1 : vSt} {e i : Nat} {en : Ent} (h : EntIs S i en) (hf : Fr S S1 (PI e) (AI e)) : EntIs S1 i en := h.fr2 hf (by rintro j hj (⟨q, q2⟩ | q | q) <;> omega) (by rintro (⟨q, q2⟩ | q | q) <;> omega) (by intro q; have q : 155 + 6 * i = 158 + 6 * e := q; omega)
theorem EntsAt.wk {S S1 : vSt} {e : Nat} {es : List Ent} (h : EntsAt S es) (hf : Fr S S1 (PI e) (AI e)) : EntsAt S1 es := ⟨by rw [hf.1 _ _ (by rintro (⟨q, q2⟩ | q | q) <;> omega), h.n], h.le, fun i en hi => (h.is i en hi).wk hf, h.ok⟩
theorem ItemIs.fr {S S1 : vSt} {P : Nat → Nat → Prop} {A : Nat → Prop} {it r a k : Nat} {bs : List Nat} (h : ItemIs S it r a k bs) (hf : Fr S S1 P A) (h1 : ∀ j, ¬ P it j) (h2 : ∀ j, ¬ P r j) (h3 : ¬ A a) : ItemIs S1 it r a k bs := h.congr (fun j => hf.1 _ _ (h1 j)) (fun j => hf.1 _ _ (h2 j)) (hf.2 _ h3)
theorem OneWk.wk {S S1 : vSt} {e i : Nat} {w : Option Obj} (h : OneWk S i w) (hf : Fr S S1 (PI e) (AI e)) (hne : i ≠ e) : OneWk S1 i w := by
  refine ⟨by rw [hf.1 _ _ (by rintro (⟨q, q2⟩ | q | q) <;> omega), h.1], fun o ho => (h.2 o ho).fr hf (fun j => ?_) (fun j => ?_) ?_⟩
  · rintro (⟨q, q2⟩ | q | q) <;> omega
  · rintro (⟨q, q2⟩ | q | q) <;> omega
  · intro q; have q : 158 + 6 * i = 158 + 6 * e := q; omega
theorem Fr.item {S : vSt} {P : Nat → Nat → Prop} {A : Nat → Prop} {it r a k : Nat} {bs : List Nat} (h1 : ∀ j, P it j) (h2 : P r 1) (h3 : A a) : Fr S (itemSet S it r a k bs) P A := ((Fr.row h2 h3).tr (Fr.fu (h1 1))).tr (Fr.fu (h1 2))
theorem c_takeWhole {S : vSt} {e : Nat} {en : Ent} (he : e < 16) (h : EntIs S e en) (hk : EntOk e en) (hl : (S.2 (158 + 6 * e)).length = 24) : ∃ S1, callv 90 [.ref (153 + 6 * e)] (hp S) = some (none, hp S1) ∧ Fr S S1 (PI e) (AI e) ∧ OneWk S1 e (wk0 en) := by
  obtain ⟨g1, g2, g3, g4, g5⟩ := h
  obtain ⟨o1, o2, o3, o4, o5, o6, o7, o8⟩ := hk
  have hE := isEnt_e he
  have x1 : 153 + 6 * e + 1 = 154 + 6 * e := by omega
  have x3 : 153 + 6 * e + 3 = 156 + 6 * e := by omega
  have x4 : 153 + 6 * e + 4 = 157 + 6 * e := by omega
  have x5 : 153 + 6 * e + 5 = 158 + 6 * e := by omega
  have hI : isItem (156 + 6 * e) (157 + 6 * e) (158 + 6 * e) := by
    have := hE.2.2
    rwa [x3, x4, x5] at this
  have hs7 : en.2.1 ≤ 7 := by unfold knownS at o2; omega
  have t1 := fun S => nt (S := S) hE
  have t2 := fun S => itt (S := S) hI
  have ew := c_isWhole hE g2 (by omega)
  have f3 : ∀ x, (fu S (153 + 6 * e) 6 x).1 (153 + 6 * e) 3 = nI en.2.1 := fun x => by rw [fu_k _ _ (by decide), g2]
  have P6 : PI e (153 + 6 * e) 6 := Or.inl ⟨rfl, rfl⟩
  have go : callv 90 [.ref (153 + 6 * e)] (hp S) = if decide (en.2.1 ≤ 3) = true then vbind (callv 100 [.ref (156 + 6 * e), .int (nI en.2.1), .ref (154 + 6 * e)] (hp (fu S (153 + 6 * e) 6 (bI (decide (en.2.1 ≤ 3)))))) (fun v h' => runv 90 30 [some (.ref (153 + 6 * e))] (vpush v []) h') else some (none, hp (fu S (153 + 6 * e) 6 (bI (decide (en.2.1 ≤ 3))))) := by
    show runv 90 0 [some (.ref (153 + 6 * e))] [] (hp S) = _
    simp only [s90_0, s90_1, s90_2, s90_5, s90_8, s90_9, s90_12, s90_15, s90_16, s90_19, s90_20, s90_23, s90_24, s90_27, s90_30, List.length_cons, List.length_nil, Nat.reduceAdd, Nat.reduceLeDiff, Nat.zero_le, t1, ew, vbind_some, vpush_some, n6p hE, n6 hE, n0 hE, n1 hE, n3 hE, f3, fu_at, if_bI, x1, x3, t2]
  rw [go]
  unfold wk0
  by_cases hw : en.2.1 ≤ 3
  · rw [if_pos (decide_eq_true hw), if_pos hw, decide_eq_true hw]
    have hR : RowIs (fu S (153 + 6 * e) 6 (bI true)) (154 + 6 * e) (155 + 6 * e) 255 en.2.2.2.2 := g5.fu (by omega)
    have e1 := c_fill hI (S := fu S (153 + 6 * e) 6 (bI true)) hl hR o6 (k := en.2.1) (by omega) (by omega) (by have := o4 hw; omega)
    refine ⟨itemSet (fu S (153 + 6 * e) 6 (bI true)) (156 + 6 * e) (157 + 6 * e) (158 + 6 * e) en.2.1 en.2.2.2.2, ?_, (Fr.fu P6).tr (Fr.item (fun j => Or.inr (Or.inl rfl)) (Or.inr (Or.inr rfl)) rfl), ?_, ?_⟩
    · rw [e1, vbind_some, vpush_none, s90_30]
    · have F : Fr (fu S (153 + 6 * e) 6 (bI true)) (itemSet (fu S (153 + 6 * e) 6 (bI true)) (156 + 6 * e) (157 + 6 * e) (158 + 6 * e) en.2.1 en.2.2.2.2) (fun b _ => b = 156 + 6 * e ∨ b = 157 + 6 * e) (fun b => b = 158 + 6 * e) := Fr.item (fun j => Or.inl rfl) (Or.inr rfl) rfl
      rw [F.1 _ _ (by omega), fu_at]
      rfl
    · intro o ho
      cases ho
      exact ItemIs.set hI hl o6 hw (by have := o4 hw; omega)
  · rw [if_neg (show ¬ decide (en.2.1 ≤ 3) = true by simp [hw]), if_neg hw]
    refine ⟨fu S (153 + 6 * e) 6 (bI (decide (en.2.1 ≤ 3))), rfl, Fr.fu P6, ?_, fun o ho => by cases ho⟩
    rw [fu_at, decide_eq_false hw]
    rfl
def WkAt (S : vSt) (es : List Ent) (ws : Wk) : Prop := EntsAt S es ∧ ws.length ≤ es.length ∧ (∀ i w, ws[i]? = some w → OneWk S i w) ∧ (∀ (i : Nat) (en : Ent), es[i]? = some en → ws[i]? = some none → 3 < en.2.1) ∧ ∀ e, e < 16 → (S.2 (158 + 6 * e)).length = 24
def rIdx (ws : Wk) (b : Nat) : Option Nat := ws.findIdx? fun w => match w with
  | some o => decide (oid o.1 o.2 = b)
  | none => false
def bsOf (cs : List Obj) (ws : Wk) (en : Ent) : Option Obj := if en.2.1 = 6 then (ws[en.2.2.2.1]?).join else match rIdx ws en.2.2.2.1 with
  | some i => (ws[i]?).join
  | none => match fIdx cs (nI en.2.2.2.1) with
    | some j => cs[j]?
    | none => none
theorem rIdx_some {ws : Wk} {b i : Nat} (h : rIdx ws b = some i) : ∃ o, ws[i]? = some (some o) ∧ oid o.1 o.2 = b := by
  obtain ⟨h1, h2, h3⟩ := List.findIdx?_eq_some_iff_getElem.mp h
  cases hw : ws[i] with
  | none => rw [hw] at h2; cases h2
  | some o =>
    rw [hw] at h2
    exact ⟨o, by rw [List.getElem?_eq_getElem h1, hw], of_decide_eq_true h2⟩
def bRes (S : vSt) (cs : List Obj) (r : Option Nat) (i b : Nat) : Option (Option Value × vH) := match r with
  | some j => some (some (.ref (156 + 6 * (i + j))), hp S)
  | none => match fIdx cs (nI b) with
    | some j => some (some (.ref (54 + 2 + 3 * j)), hp S)
    | none => some (some .null, hp S)
theorem c_baseOf_loop {S : vSt} {es : List Ent} {ws : Wk} {cs : List Obj} {b e : Nat} (hW : WkAt S es ws) (hlen : ws.length = es.length) (hC : ShelfIs S 54 24 cs) (he : e < 16) (hb : S.1 (153 + 6 * e) 5 = nI b) (hb2 : b < 65536) : ∀ k i, i + k = es.length → runv 125 37 [some (.ref 151), some (.ref (153 + 6 * e)), some (.int (nI i))] [] (hp S) = bRes S cs (rIdx (ws.drop i) b) i b := by
  obtain ⟨hE, h2, h3, h4, h5⟩ := hW
  have h16 := hE.le
  have hEe := isEnt_e he
  have t1 := sht (S := S) hC.1
  intro k
  induction k with
  | zero =>
    intro i hi
    rw [s125_37]
    simp only [s125_38, s125_39, s125_42, r3, hE.n]
    rw [if_pos (nI_le (by omega) (by omega)), List.drop_of_length_le (by omega)]
    show _ = bRes S cs none i b
    unfold bRes
    simp only
    simp only [s125_92, s125_93, s125_96, n125_96, s125_97, s125_100, s125_103, s125_104, s125_105, r1, n5 hEe, hb, List.length_cons, List.length_nil, Nat.reduceAdd, Nat.reduceLeDiff, Nat.zero_le, t1, c_find hC, vbind_some, vpush_some]
    cases hf : fIdx cs (nI b) with
    | none =>
      rw [if_neg (show ¬ 0 ≤ oI none by decide)]
      simp only [s125_108, s125_109, s125_112, s125_113, s125_116, s125_117, s125_120, n125_120]
    | some j =>
      have := fIdx_lt hf
      have := hC.2.1
      rw [if_pos (show 0 ≤ oI (some j) from nI_pos' (by omega))]
      simp only [s125_108, s125_109, s125_112, s125_113, s125_116, s125_117, s125_120, n125_120, r1, oI, List.length_cons, List.length_nil, Nat.reduceAdd, Nat.reduceLeDiff, Nat.zero_le, t1, c_shGet hC.1 (show j < 24 by omega), vbind_some, vpush_some]
  | succ k ih =>
    intro i hi
    have hil : i < ws.length := by omega
    have hwi : ws[i]? = some ws[i] := List.getElem?_eq_getElem hil
    have hone := h3 i ws[i] hwi
    have hEi := isEnt_e (show i < 16 by omega)
    have x3 : 153 + 6 * i + 3 = 156 + 6 * i := by omega
    have hI : isItem (156 + 6 * i) (157 + 6 * i) (158 + 6 * i) := by
      have := hEi.2.2
      rwa [x3, show 153 + 6 * i + 4 = 157 + 6 * i by omega, show 153 + 6 * i + 5 = 158 + 6 * i by omega] at this
    have t2 := itt (S := S) hI
    rw [s125_37]
    simp only [s125_38, s125_39, s125_42, s125_45, s125_46, s125_49, s125_50, s125_51, s125_54, r2, r3, hE.n, re_get (show i < 16 by omega), n6 hEi, hone.1, if_bI]
    rw [if_neg (nI_ge (by omega) (by omega)), List.drop_eq_getElem_cons hil]
    have shift : ∀ (x : Option Obj), (match x with | some o => decide (oid o.1 o.2 = b) | none => false) = false → rIdx (x :: ws.drop (i + 1)) b = (rIdx (ws.drop (i + 1)) b).map (fun j => j + 1) := by
      intro x hx
      unfold rIdx
      rw [List.findIdx?_cons, hx]
      rfl
    have next : bRes S cs (rIdx (ws.drop (i + 1)) b) (i + 1) b = bRes S cs ((rIdx (ws.drop (i + 1)) b).map (fun j => j + 1)) i b := by
      cases rIdx (ws.drop (i + 1)) b with
      | none => rfl
      | some j => simp only [Option.map_some, bRes]; rw [show i + 1 + j = i + (j + 1) by omega]
    have step : runv 125 86 [some (.ref 151), some (.ref (153 + 6 * e)), some (.int (nI i))] [] (hp S) = runv 125 37 [some (.ref 151), some (.ref (153 + 6 * e)), some (.int (nI (i + 1)))] [] (hp S) := by
      simp only [s125_86, s125_89, nI_1]
    cases hw : ws[i] with
    | none =>
      rw [if_neg (by simp), step, ih (i + 1) (by omega), shift none rfl]
      exact next
    | some o =>
      rw [hw] at hone
      have hit := hone.2 o rfl
      have ho := oid_lt o.1 o.2
      rw [if_pos (show (some o).isSome = true from rfl)]
      simp only [s125_57, s125_58, s125_61, s125_62, s125_63, s125_66, s125_69, n125_69, s125_70, s125_73, r2, re_get (show i < 16 by omega), n1 hEi, x3, List.length_cons, List.length_nil, Nat.reduceAdd, Nat.reduceLeDiff, Nat.zero_le, t2, c_id hI, hit.2.2.2.1, vbind_some, vpush_some, n5 hEe, hb, nI_inj (show oid o.1 o.2 < 2 ^ 31 by omega) (show b < 2 ^ 31 by omega)]
      by_cases hq : oid o.1 o.2 = b
      · rw [if_pos hq]
        have : rIdx (some o :: ws.drop (i + 1)) b = some 0 := by
          unfold rIdx
          rw [List.findIdx?_cons]
          simp [hq]
        rw [this]
        unfold bRes
        simp only [s125_76, s125_77, s125_80, s125_81, s125_82, s125_85, n125_85, r2, re_get (show i < 16 by omega), n1 hEi, x3, Nat.add_zero]
      · rw [if_neg hq, step, ih (i + 1) (by omega), shift (some o) (by simp [hq])]
        exact next
theorem c_baseOf {S : vSt} {es : List Ent} {ws : Wk} {cs : List Obj} {e : Nat} {en : Ent} (hW : WkAt S es ws) (hlen : ws.length = es.length) (hC : ShelfIs S 54 24 cs) (he : es[e]? = some en) (hs : 3 < en.2.1) : match bsOf cs ws en with
    | none => callv 125 [.ref 151, .ref (153 + 6 * e)] (hp S) = some (some .null, hp S)
    | some o => ∃ ad : Nat, callv 125 [.ref 151, .ref (153 + 6 * e)] (hp S) = some (some (.ref ad), hp S) ∧ ItemIs S ad (ad + 1) (ad + 2) o.1 o.2 ∧ (ad + 2 < 151 ∨ ∃ i, ad = 156 + 6 * i ∧ ws[i]? = some (some o)) := by
  have hE := hW.1
  have h16 := hE.le
  have hel : e < es.length := (List.getElem?_eq_some_iff.mp he).1
  have he16 : e < 16 := by omega
  have hEe := isEnt_e he16
  obtain ⟨g1, g2, g3, g4, g5⟩ := hE.is e en he
  obtain ⟨o1, o2, o3, o4, o5, o6, o7, o8⟩ := hE.ok e en he
  have hs7 : en.2.1 ≤ 7 := by unfold knownS at o2; omega
  have hb := g4 hs
  generalize hbb : en.2.2.2.1 = b at *
  have start : callv 125 [.ref 151, .ref (153 + 6 * e)] (hp S) = if nI en.2.1 = 6 then runv 125 9 [some (.ref 151), some (.ref (153 + 6 * e)), none] [] (hp S) else runv 125 37 [some (.ref 151), some (.ref (153 + 6 * e)), some (.int (nI 0))] [] (hp S) := by
    show runv 125 0 [some (.ref 151), some (.ref (153 + 6 * e)), none] [] (hp S) = _
    simp only [s125_0, n125_0, s125_1, s125_4, s125_6, s125_35, s125_36, n3 hEe, g2]
    rfl
  rw [start]
  have ad_of : ∀ (i : Nat) (o : Obj), ws[i]? = some (some o) → ItemIs S (156 + 6 * i) (156 + 6 * i + 1) (156 + 6 * i + 2) o.1 o.2 := fun i o hi => by
    have := (hW.2.2.1 i _ hi).2 o rfl
    rwa [show 156 + 6 * i + 1 = 157 + 6 * i by omega, show 156 + 6 * i + 2 = 158 + 6 * i by omega]
  by_cases h6 : en.2.1 = 6
  · rw [if_pos (show nI en.2.1 = 6 by rw [h6]; rfl)]
    have hbe := o7 h6
    have hE2 := isEnt_e (show b < 16 by omega)
    have hwb : ws[b]? = some (ws[b]'(by omega)) := List.getElem?_eq_getElem (by omega)
    have hone := hW.2.2.1 b _ hwb
    unfold bsOf
    rw [if_pos h6, hbb, hwb]
    simp only [s125_9, s125_10, s125_13, n125_13, s125_14, s125_17, s125_18, n125_18, s125_19, n125_19, s125_20, s125_23, s125_26, n125_26, s125_27, s125_30, s125_33, s125_34, n125_34, r2, n5 hEe, hb, re_get (show b < 16 by omega), n6 hE2, hone.1, if_bI, n1 hE2]
    cases hw : ws[b]'(by omega) with
    | none => simp
    | some o =>
      rw [hw] at hwb
      simp only [Option.join_some, Option.isSome_some, if_true]
      exact ⟨156 + 6 * b, by rw [show 153 + 6 * b + 3 = 156 + 6 * b by omega], ad_of b o hwb, Or.inr ⟨b, rfl, hwb⟩⟩
  · rw [if_neg (show ¬ nI en.2.1 = 6 from fun q => h6 ((nI_inj (b := 6) (by omega) (by omega)).mp q))]
    have e1 := c_baseOf_loop hW hlen hC he16 hb o8 es.length 0 (by omega)
    rw [List.drop_zero] at e1
    rw [e1]
    unfold bsOf bRes
    rw [if_neg h6, hbb]
    cases hr : rIdx ws b with
    | some i =>
      obtain ⟨o, q1, q2⟩ := rIdx_some hr
      simp only [q1, Option.join_some]
      exact ⟨156 + 6 * i, by rw [Nat.zero_add], ad_of i o q1, Or.inr ⟨i, rfl, q1⟩⟩
    | none =>
      simp only
      cases hf : fIdx cs (nI b) with
      | none => rfl
      | some j =>
        have hj := fIdx_lt hf
        have := hC.2.1
        simp only [List.getElem?_eq_getElem hj]
        have := hC.2.2.2.1 j _ (List.getElem?_eq_getElem hj)
        have x1 : 54 + 2 + 3 * j + 1 = 54 + 3 + 3 * j := by omega
        have x2 : 54 + 2 + 3 * j + 2 = 54 + 4 + 3 * j := by omega
        refine ⟨54 + 2 + 3 * j, rfl, ?_, Or.inl (show 54 + 2 + 3 * j + 2 < 151 by omega)⟩
        rw [x1, x2]
        exact this
