/-! what was worked out: counted and kept -/
def newB (cs pre : List Obj) (o : Obj) : Bool := pre.all (fun g => decide (oid g.1 g.2 ≠ oid o.1 o.2)) && (fIdx cs (nI (oid o.1 o.2))).isNone
def newF (cs : List Obj) : List Obj → List Obj → Nat
  | _, [] => 0
  | pre, o :: t => (if newB cs pre o = true then 1 else 0) + newF cs (pre ++ [o]) t
def kpF : List Obj → List Obj → List Obj
  | cs, [] => cs
  | cs, o :: t => kpF (if (fIdx cs (nI (oid o.1 o.2))).isNone = true then cs ++ [o] else cs) t
section KP2
variable {S : vSt} {gs cs : List Obj}
theorem c_isNew_loop (h : GotAt S gs) (hC : ShelfIs S 54 24 cs) {i : Nat} (hi : i < gs.length) : ∀ k j, j + k = i → runv 129 15 [some (.ref 151), some (.int (nI i)), some (.int (nI (oid gs[i].1 gs[i].2))), some (.int (nI j))] [] (hp S) = some (some (.int (bI (newB cs ((gs.take i).drop j) gs[i]))), hp S) := by
  have h16 := h.2.1
  have t2 := sht (S := S) hC.1
  have hid := oid_lt gs[i].1 gs[i].2
  intro k
  induction k with
  | zero =>
    intro j hj
    rw [s129_15]
    simp only [s129_16, s129_17, s129_44, s129_45, s129_48, s129_49, s129_52, s129_55, s129_56, s129_59, s129_60, r1, List.length_cons, List.length_nil, Nat.reduceAdd, Nat.reduceLeDiff, Nat.zero_le, t2, c_find hC, vbind_some, vpush_some, vb0, vb1]
    rw [if_pos (nI_le (by omega) (by omega)), List.drop_of_length_le (by rw [List.length_take]; omega)]
    unfold newB
    simp only [List.all_nil, Bool.true_and]
    cases hf : fIdx cs (nI (oid gs[i].1 gs[i].2)) with
    | none =>
      rw [if_neg (show ¬ 0 ≤ oI none by decide)]
      rfl
    | some q =>
      have hq := fIdx_lt hf
      have := hC.2.1
      rw [if_pos (show 0 ≤ oI (some q) from nI_pos' (by omega))]
      rfl
  | succ k ih =>
    intro j hj
    have hjl : j < gs.length := by omega
    have hjt : j < (gs.take i).length := by rw [List.length_take]; omega
    have hig := h.it hjl
    have hI := isItem_e (show j < 16 by omega)
    have t1 := itt (S := S) hI
    have hjd := oid_lt gs[j].1 gs[j].2
    rw [s129_15]
    simp only [s129_16, s129_17, s129_20, s129_21, s129_24, s129_25, s129_26, s129_29, s129_32, s129_33, s129_36, s129_37, s129_38, s129_41, r2, re_get (show j < 16 by omega), n1' (show j < 16 by omega), List.length_cons, List.length_nil, Nat.reduceAdd, Nat.reduceLeDiff, Nat.zero_le, t1, c_id hI, hig.2.2.2.1, vbind_some, vpush_some, nI_1, vb0, nI_inj (show oid gs[j].1 gs[j].2 < 2 ^ 31 by omega) (show oid gs[i].1 gs[i].2 < 2 ^ 31 by omega)]
    rw [if_neg (nI_ge (by omega) (by omega)), ih (j + 1) (by omega), List.drop_eq_getElem_cons hjt, List.getElem_take]
    unfold newB
    rw [List.all_cons]
    by_cases q : oid gs[j].1 gs[j].2 = oid gs[i].1 gs[i].2
    · rw [if_pos q, decide_eq_false (by simp [q])]
      rfl
    · rw [if_neg q, decide_eq_true q]
      rfl
theorem c_isNew (h : GotAt S gs) (hC : ShelfIs S 54 24 cs) {i : Nat} (hi : i < gs.length) : callv 129 [.ref 151, .int (nI i)] (hp S) = some (some (.int (bI (newB cs (gs.take i) gs[i]))), hp S) := by
  have h16 := h.2.1
  have hI := isItem_e (show i < 16 by omega)
  have t1 := itt (S := S) hI
  have e := c_isNew_loop h hC hi i 0 (by omega)
  rw [List.drop_zero] at e
  rw [← e]
  show runv 129 0 [some (.ref 151), some (.int (nI i)), none, none] [] (hp S) = _
  simp only [s129_0, s129_1, s129_4, s129_5, s129_6, s129_9, s129_12, s129_13, s129_14, r2, re_get (show i < 16 by omega), n1' (show i < 16 by omega), List.length_cons, List.length_nil, Nat.reduceAdd, Nat.reduceLeDiff, Nat.zero_le, t1, c_id hI, (h.it hi).2.2.2.1, vbind_some, vpush_some]
  rfl
theorem c_newItems_loop (h : GotAt S gs) (hC : ShelfIs S 54 24 cs) : ∀ k i n, i + k = gs.length → runv 128 4 [some (.ref 151), some (.int (nI n)), some (.int (nI i))] [] (hp S) = some (some (.int (nI (n + newF cs (gs.take i) (gs.drop i)))), hp S) := by
  have h16 := h.2.1
  have t0 := rtR (S := S)
  intro k
  induction k with
  | zero =>
    intro i n hi
    rw [s128_4]
    simp only [s128_0, s128_1, s128_2, s128_3, s128_5, s128_6, s128_9, s128_12, s128_13, s128_14, s128_15, s128_18, s128_21, s128_22, s128_25, s128_26, s128_27, s128_28, s128_31, s128_34, s128_35, r3, h.1]
    rw [if_pos (nI_le (by omega) (by omega)), List.drop_of_length_le (by omega)]
    rfl
  | succ k ih =>
    intro i n hi
    have hil : i < gs.length := by omega
    have e := ih (i + 1) (n + if newB cs (gs.take i) gs[i] = true then 1 else 0) (by omega)
    rw [s128_4]
    simp only [s128_0, s128_1, s128_2, s128_3, s128_5, s128_6, s128_9, s128_12, s128_13, s128_14, s128_15, s128_18, s128_21, s128_22, s128_25, s128_26, s128_27, s128_28, s128_31, s128_34, s128_35, r3, h.1, List.length_cons, List.length_nil, Nat.reduceAdd, Nat.reduceLeDiff, Nat.zero_le, t0, c_isNew h hC hil, vbind_some, vpush_some, if_bI, nI_1]
    rw [if_neg (nI_ge (by omega) (by omega)), List.drop_eq_getElem_cons hil]
    show _ = some (some (Value.int (nI (n + ((if newB cs (gs.take i) gs[i] = true then 1 else 0) + newF cs (gs.take i ++ [gs[i]]) (gs.drop (i + 1)))))), hp S)
    rw [List.take_succ_eq_append_getElem hil] at e
    rw [← Nat.add_assoc, ← e]
    by_cases q : newB cs (gs.take i) gs[i] = true
    · rw [if_pos q, if_pos q]
    · rw [if_neg q, if_neg q]
      rw [show nI n + 0 = nI (n + 0) from Int32.add_zero _]
theorem c_newItems (h : GotAt S gs) (hC : ShelfIs S 54 24 cs) : callv 128 [.ref 151] (hp S) = some (some (.int (nI (newF cs [] gs))), hp S) := by
  have e := c_newItems_loop h hC gs.length 0 0 (by omega)
  rw [List.take_zero, List.drop_zero, Nat.zero_add] at e
  rw [← e]
  show runv 128 0 [some (.ref 151), none, none] [] (hp S) = _
  simp only [s128_0, s128_1, s128_2, s128_3]
  rfl
end KP2
theorem kpF_le : ∀ (gs cs : List Obj), cs.length ≤ (kpF cs gs).length := by
  intro gs
  induction gs with
  | nil => intro cs; exact Nat.le_refl _
  | cons o t ih =>
    intro cs
    unfold kpF
    refine Nat.le_trans ?_ (ih _)
    split <;> simp
theorem fIdx_none {cs : List Obj} {n : Nat} (hn : n < 65536) : fIdx cs (nI n) = none ↔ ∀ g ∈ cs, oid g.1 g.2 ≠ n := by
  unfold fIdx
  rw [List.findIdx?_eq_none_iff]
  constructor
  · intro h g hg e
    have := h g hg
    simp [e] at this
  · intro h g hg
    have := oid_lt g.1 g.2
    simp only [decide_eq_false_iff_not]
    rw [nI_inj (by omega) (by omega)]
    exact h g hg
/-- as many are kept as were counted -/
theorem kp_cnt (cs : List Obj) : ∀ (t pre ds : List Obj), (∀ n, n < 65536 → (fIdx ds (nI n) = none ↔ fIdx cs (nI n) = none ∧ ∀ g ∈ pre, oid g.1 g.2 ≠ n)) → (kpF ds t).length = ds.length + newF cs pre t := by
  intro t
  induction t with
  | nil => intro pre ds h; rfl
  | cons o t ih =>
    intro pre ds h
    have ho := oid_lt o.1 o.2
    have h1 := h (oid o.1 o.2) (by omega)
    have hnb : newB cs pre o = (fIdx ds (nI (oid o.1 o.2))).isNone := by
      unfold newB
      rw [Bool.eq_iff_iff]
      simp only [Bool.and_eq_true, List.all_eq_true, decide_eq_true_eq, Option.isNone_iff_eq_none]
      rw [h1]
      exact And.comm
    unfold kpF newF
    rw [hnb]
    by_cases q : (fIdx ds (nI (oid o.1 o.2))).isNone = true
    · rw [if_pos q, if_pos q, ih (pre ++ [o]) (ds ++ [o]), List.length_append, List.length_singleton]
      · omega
      · intro n hn
        rw [fIdx_none hn]
        have h2 := h n hn
        rw [fIdx_none hn] at h2
        constructor
        · intro z
          have z1 := h2.mp (fun g hg => z g (List.mem_append_left _ hg))
          refine ⟨z1.1, fun g hg => ?_⟩
          rcases List.mem_append.mp hg with w | w
          · exact z1.2 g w
          · exact z g (List.mem_append_right _ w)
        · rintro ⟨z1, z2⟩ g hg
          rcases List.mem_append.mp hg with w | w
          · exact h2.mpr ⟨z1, fun g hg => z2 g (List.mem_append_left _ hg)⟩ g w
          · exact z2 g (List.mem_append_right _ w)
    · rw [if_neg q, if_neg q, ih (pre ++ [o]) ds, Nat.zero_add]
      intro n hn
      have h2 := h n hn
      constructor
      · intro z
        refine ⟨(h2.mp z).1, fun g hg => ?_⟩
        rcases List.mem_append.mp hg with w | w
        · exact (h2.mp z).2 g w
        · have : g = o := by simpa using w
          subst this
          intro e
          rw [Option.isNone_iff_eq_none] at q
          rw [e] at q
          exact q z
      · rintro ⟨z1, z2⟩
        exact h2.mpr ⟨z1, fun g hg => z2 g (List.mem_append_left _ hg)⟩
theorem kp_len (cs gs : List Obj) : (kpF cs gs).length = cs.length + newF cs [] gs := kp_cnt cs gs [] cs (fun n _ => by simp)
def PKc : Nat → Nat → Prop := fun b _ => 54 ≤ b ∧ b < 128
def AKc : Nat → Prop := fun b => 54 ≤ b ∧ b < 128
theorem GotAt.fr {S S1 : vSt} {gs : List Obj} (h : GotAt S gs) (hf : Fr S S1 PKc AKc) : GotAt S1 gs := by
  refine ⟨by rw [hf.1 _ _ (by rintro ⟨q1, q2⟩; omega), h.1], h.2.1, fun i o ho => (h.2.2 i o ho).fr hf (fun j => ?_) (fun j => ?_) ?_⟩ <;> (rintro ⟨q1, q2⟩; omega)
theorem c_keepNew_loop {gs : List Obj} {w : Int32} : ∀ k i cs S v3, i + k = gs.length → GotAt S gs → ShelfIs S 54 24 cs → (kpF cs (gs.drop i)).length ≤ 24 → ∃ S1, runv 130 10 [some (.ref 151), some (.int w), some (.int (nI i)), v3] [] (hp S) = some (some (.int (nI (kpF cs (gs.drop i)).length - w)), hp S1) ∧ Fr S S1 PKc AKc ∧ ShelfIs S1 54 24 (kpF cs (gs.drop i)) := by
  intro k
  induction k with
  | zero =>
    intro i cs S v3 hi h hC hl
    have h16 := h.2.1
    have t2 := sht (S := S) hC.1
    rw [List.drop_of_length_le (by omega)] at hl ⊢
    refine ⟨S, ?_, Fr.rf, hC⟩
    rw [s130_10]
    simp only [s130_11, s130_12, s130_15, s130_56, s130_57, s130_60, s130_63, s130_64, s130_65, r1, r3, h.1, List.length_cons, List.length_nil, Nat.reduceAdd, Nat.reduceLeDiff, Nat.zero_le, t2, c_held hC, vbind_some, vpush_some]
    rw [if_pos (nI_le (by omega) (by omega))]
    rfl
  | succ k ih =>
    intro i cs S v3 hi h hC hl
    have h16 := h.2.1
    have hil : i < gs.length := by omega
    have hI := isItem_e (show i < 16 by omega)
    have t1 := itt (S := S) hI
    have t2 := fun S => sht (S := S) hC.1
    have hit := h.it hil
    rw [List.drop_eq_getElem_cons hil] at hl ⊢
    have start : runv 130 10 [some (.ref 151), some (.int w), some (.int (nI i)), v3] [] (hp S) = if 0 ≤ oI (fIdx cs (nI (oid gs[i].1 gs[i].2))) then runv 130 50 [some (.ref 151), some (.int w), some (.int (nI i)), some (.ref (156 + 6 * i))] [] (hp S) else runv 130 42 [some (.ref 151), some (.int w), some (.int (nI i)), some (.ref (156 + 6 * i))] [] (hp S) := by
      rw [s130_10]
      simp only [s130_11, s130_12, s130_15, s130_18, s130_19, s130_22, s130_23, s130_24, s130_27, n130_27, s130_28, s130_29, s130_32, n130_32, s130_33, s130_36, s130_39, r1, r2, r3, h.1, re_get (show i < 16 by omega), n1' (show i < 16 by omega), List.length_cons, List.length_nil, Nat.reduceAdd, Nat.reduceLeDiff, Nat.zero_le, t1, t2, c_id hI, hit.2.2.2.1, c_find hC, vbind_some, vpush_some]
      rw [if_neg (nI_ge (by omega) (by omega))]
    have step : ∀ S1, runv 130 50 [some (.ref 151), some (.int w), some (.int (nI i)), some (.ref (156 + 6 * i))] [] (hp S1) = runv 130 10 [some (.ref 151), some (.int w), some (.int (nI (i + 1))), some (.ref (156 + 6 * i))] [] (hp S1) := fun S1 => by
      simp only [s130_50, s130_53, nI_1]
    rw [start]
    unfold kpF at hl ⊢
    cases hf : fIdx cs (nI (oid gs[i].1 gs[i].2)) with
    | some q =>
      have hq := fIdx_lt hf
      have := hC.2.1
      rw [hf] at hl
      rw [if_pos (show 0 ≤ oI (some q) from nI_pos' (by omega)), step, if_neg (by simp)]
      rw [if_neg (by simp)] at hl
      exact ih (i + 1) cs S _ (by omega) h hC hl
    | none =>
      rw [hf] at hl
      rw [if_neg (show ¬ 0 ≤ oI none by decide), if_pos (show (none : Option Nat).isNone = true from rfl)]
      rw [if_pos (show (none : Option Nat).isNone = true from rfl)] at hl
      have hlt : cs.length < 24 := by
        have := kpF_le (gs.drop (i + 1)) (cs ++ [gs[i]])
        rw [List.length_append, List.length_singleton] at this
        omega
      have ek := c_keep hC hit hlt (by omega)
      have hp1 := hC.push (k := gs[i].1) (bs := gs[i].2) hlt hit.2.2.2.2.1 hit.2.2.2.2.2 hit.2.1.2.2.2.2.1
      have F : Fr S (shPush S 54 cs.length gs[i].1 gs[i].2) PKc AKc := by
        unfold shPush
        exact (Fr.item (fun j => ⟨by omega, by omega⟩) ⟨by omega, by omega⟩ ⟨by omega, by omega⟩).tr (Fr.fu ⟨by omega, by omega⟩)
      obtain ⟨S1, g1, g2, g3⟩ := ih (i + 1) (cs ++ [gs[i]]) _ (some (.ref (156 + 6 * i))) (by omega) (h.fr F) hp1 hl
      refine ⟨S1, ?_, F.tr g2, g3⟩
      rw [← g1, ← step]
      simp only [s130_42, s130_43, s130_46, n130_46, s130_47, r1, List.length_cons, List.length_nil, Nat.reduceAdd, Nat.reduceLeDiff, Nat.zero_le, t2, ek, vbind_some, vpush_none]
theorem c_keepNew {S : vSt} {gs cs : List Obj} (h : GotAt S gs) (hC : ShelfIs S 54 24 cs) (hl : cs.length + newF cs [] gs ≤ 24) : ∃ S1, callv 130 [.ref 151] (hp S) = some (some (.int (nI (newF cs [] gs))), hp S1) ∧ Fr S S1 PKc AKc ∧ ShelfIs S1 54 24 (kpF cs gs) := by
  have t2 := sht (S := S) hC.1
  obtain ⟨S1, g1, g2, g3⟩ := c_keepNew_loop (gs := gs) (w := nI cs.length) gs.length 0 cs S none (by omega) h hC (by rw [List.drop_zero, kp_len]; exact hl)
  rw [List.drop_zero, kp_len, pk_sub (by omega), show cs.length + newF cs [] gs - cs.length = newF cs [] gs by omega] at g1
  rw [List.drop_zero] at g3
  refine ⟨S1, ?_, g2, g3⟩
  rw [← g1]
  show runv 130 0 [some (.ref 151), none, none, none] [] (hp S) = _
  simp only [s130_0, s130_1, s130_4, s130_7, s130_8, s130_9, r1, List.length_cons, List.length_nil, Nat.reduceAdd, Nat.reduceLeDiff, Nat.zero_le, t2, c_held hC, vbind_some, vpush_some]
  rfl
theorem c_fault {S : vSt} : callv 110 [.ref 151] (hp S) = some (some (.int (S.1 151 5)), hp S) := by
  show runv 110 0 [some (.ref 151)] [] (hp S) = _
  simp only [s110_0, s110_1, s110_4, r5]
