/-! what was worked out: sound, new -/
def GotAt (S : vSt) (gs : List Obj) : Prop := S.1 151 3 = nI gs.length ∧ gs.length ≤ 16 ∧ ∀ i o, gs[i]? = some o → ItemIs S (156 + 6 * i) (157 + 6 * i) (158 + 6 * i) o.1 o.2
theorem rdy_all : ∀ ws : Wk, rdy ws = ws.length → ws = (ws.filterMap id).map some := by
  intro ws
  induction ws with
  | nil => intro; rfl
  | cons w t ih =>
    intro h
    have ht := rdy_le t
    unfold rdy at h ht ih
    rw [List.countP_cons, List.length_cons] at h
    cases w with
    | none => simp at h; omega
    | some o =>
      simp only [Option.isSome_some, if_true] at h
      have := ih (by omega)
      simp only [List.filterMap_cons, id, List.map_cons]
      rw [← this]
theorem WkAt.got {S : vSt} {es : List Ent} {ws : Wk} (h : WkAt S es ws) (hl : ws.length = es.length) (hr : rdy ws = es.length) : GotAt S (ws.filterMap id) := by
  have e := rdy_all ws (by omega)
  have hl2 : (ws.filterMap id).length = es.length := by
    have : ws.length = ((ws.filterMap id).map some).length := by rw [← e]
    rw [List.length_map] at this
    omega
  refine ⟨by rw [hl2, h.1.n], by rw [hl2]; exact h.1.le, fun i o ho => ?_⟩
  refine (h.2.2.1 i (some o) ?_).2 o rfl
  rw [e, List.getElem?_map, ho]
  rfl
theorem isItem_e {i : Nat} (hi : i < 16) : isItem (156 + 6 * i) (157 + 6 * i) (158 + 6 * i) := by
  have := (isEnt_e hi).2.2
  rwa [show 153 + 6 * i + 3 = 156 + 6 * i by omega, show 153 + 6 * i + 4 = 157 + 6 * i by omega, show 153 + 6 * i + 5 = 158 + 6 * i by omega] at this
theorem n1' {S : vSt} {i : Nat} {K : Value → Option (Option Value × vH)} (hi : i < 16) : vgf (hp S) (153 + 6 * i) 7 1 K = K (.ref (156 + 6 * i)) := by
  rw [n1 (isEnt_e hi), show 153 + 6 * i + 3 = 156 + 6 * i by omega]
def clO (o g : Obj) : Bool := decide (oid o.1 o.2 = oid g.1 g.2 ∧ ¬ (o.1 = g.1 ∧ o.2 = g.2))
def clS (cs : List Obj) (o : Obj) : Bool := match fIdx cs (nI (oid o.1 o.2)) with
  | some j => match cs[j]? with
    | some g => clO o g
    | none => false
  | none => false
section KP
variable {S : vSt} {gs cs : List Obj}
theorem GotAt.it (h : GotAt S gs) {i : Nat} (hi : i < gs.length) : ItemIs S (156 + 6 * i) (157 + 6 * i) (158 + 6 * i) gs[i].1 gs[i].2 := h.2.2 i _ (List.getElem?_eq_getElem hi)
theorem c_clash_loop (h : GotAt S gs) (hC : ShelfIs S 54 24 cs) {i : Nat} (hi : i < gs.length) : ∀ k j, j + k = i → runv 127 12 [some (.ref 151), some (.int (nI i)), some (.ref (156 + 6 * i)), some (.int (nI j))] [] (hp S) = some (some (.int (bI (((gs.take i).drop j).any (clO gs[i]) || clS cs gs[i]))), hp S) := by
  have h16 := h.2.1
  have hit := h.it hi
  have hI := isItem_e (show i < 16 by omega)
  have t1 := itt (S := S) hI
  have t2 := sht (S := S) hC.1
  have hid := oid_lt gs[i].1 gs[i].2
  intro k
  induction k with
  | zero =>
    intro j hj
    rw [s127_12]
    simp only [s127_13, s127_14, s127_41, s127_42, s127_45, n127_45, s127_46, s127_49, s127_52, s127_53, s127_54, r1, List.length_cons, List.length_nil, Nat.reduceAdd, Nat.reduceLeDiff, Nat.zero_le, t1, t2, c_id hI, hit.2.2.2.1, c_find hC, vbind_some, vpush_some]
    rw [if_pos (nI_le (by omega) (by omega)), List.drop_of_length_le (by rw [List.length_take]; omega)]
    simp only [List.any_nil, Bool.false_or]
    unfold clS
    cases hf : fIdx cs (nI (oid gs[i].1 gs[i].2)) with
    | none =>
      rw [if_pos (show oI none < 0 by decide)]
      simp only [s127_76, s127_77, vb0]
      rfl
    | some q =>
      have hq := fIdx_lt hf
      have := hC.2.1
      have hg := hC.2.2.2.1 q _ (List.getElem?_eq_getElem hq)
      rw [if_neg (show ¬ oI (some q) < 0 from nI_pos (by omega))]
      simp only [s127_57, n127_57, s127_58, s127_59, s127_62, s127_63, s127_66, s127_69, s127_72, s127_73, s127_76, s127_77, r1, oI, List.length_cons, List.length_nil, Nat.reduceAdd, Nat.reduceLeDiff, Nat.zero_le, t1, t2, c_shGet hC.1 (show q < 24 by omega), c_clashes hit hg, vbind_some, vpush_some, if_bI, vb0, vb1, List.getElem?_eq_getElem hq]
      unfold clO
      cases decide (oid gs[i].1 gs[i].2 = oid cs[q].1 cs[q].2 ∧ ¬ (gs[i].1 = cs[q].1 ∧ gs[i].2 = cs[q].2)) <;> rfl
  | succ k ih =>
    intro j hj
    have hjl : j < gs.length := by omega
    have hjt : j < (gs.take i).length := by rw [List.length_take]; omega
    have hig := h.it hjl
    rw [s127_12]
    simp only [s127_13, s127_14, s127_17, n127_17, s127_18, s127_19, s127_22, s127_23, s127_24, s127_27, s127_30, s127_33, s127_34, s127_35, s127_38, r2, re_get (show j < 16 by omega), n1' (show j < 16 by omega), List.length_cons, List.length_nil, Nat.reduceAdd, Nat.reduceLeDiff, Nat.zero_le, t1, c_clashes hit hig, vbind_some, vpush_some, if_bI, nI_1, vb1]
    rw [if_neg (nI_ge (by omega) (by omega)), ih (j + 1) (by omega), List.drop_eq_getElem_cons hjt, List.any_cons, List.getElem_take]
    show (if clO gs[i] gs[j] = true then _ else _) = _
    cases clO gs[i] gs[j] <;> rfl
theorem c_isClashing (h : GotAt S gs) (hC : ShelfIs S 54 24 cs) {i : Nat} (hi : i < gs.length) : callv 127 [.ref 151, .int (nI i)] (hp S) = some (some (.int (bI ((gs.take i).any (clO gs[i]) || clS cs gs[i]))), hp S) := by
  have h16 := h.2.1
  have e := c_clash_loop h hC hi i 0 (by omega)
  rw [List.drop_zero] at e
  rw [← e]
  show runv 127 0 [some (.ref 151), some (.int (nI i)), none, none] [] (hp S) = _
  simp only [s127_0, s127_1, s127_4, s127_5, s127_6, s127_9, n127_9, s127_10, s127_11, r2, re_get (show i < 16 by omega), n1' (show i < 16 by omega)]
  rfl
/-- from place i on, all is sound -/
def sndF (cs gs : List Obj) (i : Nat) : Prop := ∀ j (hj : j < gs.length), i ≤ j → wfO gs[j].1 gs[j].2 ∧ ((gs.take j).any (clO gs[j]) || clS cs gs[j]) = false
theorem c_sound_loop (h : GotAt S gs) (hC : ShelfIs S 54 24 cs) : ∀ k i, i + k = gs.length → ∃ b : Bool, (b = true ↔ sndF cs gs i) ∧ runv 126 2 [some (.ref 151), some (.int (nI i))] [] (hp S) = some (some (.int (bI b)), hp S) := by
  have h16 := h.2.1
  have t0 := rtR (S := S)
  intro k
  induction k with
  | zero =>
    intro i hi
    refine ⟨true, ⟨fun _ j hj hij => by omega, fun _ => rfl⟩, ?_⟩
    rw [s126_2]
    simp only [s126_0, s126_1, s126_3, s126_4, s126_7, s126_10, s126_11, s126_14, s126_15, s126_16, s126_19, s126_22, s126_25, s126_26, s126_27, s126_30, s126_33, s126_34, s126_35, s126_38, s126_41, s126_42, r3, h.1, vb1]
    rw [if_pos (nI_le (by omega) (by omega))]
    rfl
  | succ k ih =>
    intro i hi
    have hil : i < gs.length := by omega
    have hI := isItem_e (show i < 16 by omega)
    have t1 := itt (S := S) hI
    obtain ⟨b1, w1, w2⟩ := c_wellFormed (h.it hil)
    obtain ⟨b2, u1, u2⟩ := ih (i + 1) (by omega)
    have ec := c_isClashing h hC hil
    generalize hcl : ((gs.take i).any (clO gs[i]) || clS cs gs[i]) = c at *
    refine ⟨b1 && (!c && b2), ?_, ?_⟩
    · constructor
      · intro q
        simp only [Bool.and_eq_true, Bool.not_eq_true'] at q
        obtain ⟨q1, q2, q3⟩ := q
        intro j hj hij
        by_cases z : j = i
        · subst z
          exact ⟨w1.mp q1, by rw [hcl, q2]⟩
        · exact u1.mp q3 j hj (by omega)
      · intro q
        have q1 := q i hil (by omega)
        simp only [Bool.and_eq_true, Bool.not_eq_true']
        exact ⟨w1.mpr q1.1, by rw [← hcl]; exact q1.2, u1.mpr (fun j hj hij => q j hj (by omega))⟩
    · rw [s126_2]
      simp only [s126_0, s126_1, s126_3, s126_4, s126_7, s126_10, s126_11, s126_14, s126_15, s126_16, s126_19, s126_22, s126_25, s126_26, s126_27, s126_30, s126_33, s126_34, s126_35, s126_38, s126_41, s126_42, r2, r3, h.1, re_get (show i < 16 by omega), n1' (show i < 16 by omega), List.length_cons, List.length_nil, Nat.reduceAdd, Nat.reduceLeDiff, Nat.zero_le, t0, t1, w2, ec, vbind_some, vpush_some, if_bI, nI_1, vb0, vb1]
      rw [if_neg (nI_ge (by omega) (by omega)), u2]
      cases b1 <;> cases c <;> rfl
theorem c_isSound (h : GotAt S gs) (hC : ShelfIs S 54 24 cs) : ∃ b : Bool, (b = true ↔ sndF cs gs 0) ∧ callv 126 [.ref 151] (hp S) = some (some (.int (bI b)), hp S) := by
  obtain ⟨b, h1, h2⟩ := c_sound_loop h hC gs.length 0 (by omega)
  refine ⟨b, h1, ?_⟩
  rw [← h2]
  show runv 126 0 [some (.ref 151), none] [] (hp S) = _
  simp only [s126_0, s126_1]
  rfl
end KP
