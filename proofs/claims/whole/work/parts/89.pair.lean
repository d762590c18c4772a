/-! class and reference side by side: one call on both -/
theorem ModIs.agr {S S1 : vSt} {m : Mst} (h : ModIs S m) (e : Agr S S1 249 300) : ModIs S1 m := by
  obtain ⟨h1, h2, h3, h4, h5, h6, h7, h8, h9, h10, h11, h12⟩ := h
  have n2 : ∀ a, 249 ≤ a → a < 300 → S1.2 a = S.2 a := fun a ha hb => (e a ha hb).2
  have n1 : ∀ j, S1.1 249 j = S.1 249 j := fun j => (e 249 (by omega) (by omega)).1 j
  have hL : RLen S1 := by
    obtain ⟨g0, g1, g2, g3, g4, g5, g6, g7, g8, g9, g10, g11, g12, g13, g14, g15, g16⟩ := h1
    exact ⟨by rw [n2 _ (by omega) (by omega), g0], by rw [n2 _ (by omega) (by omega), g1], by rw [n2 _ (by omega) (by omega), g2], by rw [n2 _ (by omega) (by omega), g3], by rw [n2 _ (by omega) (by omega), g4], by rw [n2 _ (by omega) (by omega), g5], by rw [n2 _ (by omega) (by omega), g6], by rw [n2 _ (by omega) (by omega), g7], by rw [n2 _ (by omega) (by omega), g8], by rw [n2 _ (by omega) (by omega), g9], by rw [n2 _ (by omega) (by omega), g10], by rw [n2 _ (by omega) (by omega), g11], by rw [n2 _ (by omega) (by omega), g12], by rw [n2 _ (by omega) (by omega), g13], by rw [n2 _ (by omega) (by omega), g14], by rw [n2 _ (by omega) (by omega), g15], by rw [n2 _ (by omega) (by omega), g16]⟩
  exact ⟨hL, ⟨by rw [n1]; exact h2.1, by rw [n2 _ (by omega) (by omega)]; exact h2.2.1, by rw [n2 _ (by omega) (by omega)]; exact h2.2.2.1, h2.2.2.2⟩, h3, h4, h5.of (n2 _ (by omega) (by omega)) (n2 _ (by omega) (by omega)) (n2 _ (by omega) (by omega)) (n2 _ (by omega) (by omega)), h6.of (n2 _ (by omega) (by omega)) (n2 _ (by omega) (by omega)) (n2 _ (by omega) (by omega)) (n2 _ (by omega) (by omega)), by rw [n2 _ (by omega) (by omega)]; exact h7, fun i hi => by rw [n2 _ (by omega) (by omega)]; exact h8 i hi, by rw [n1]; exact h9, by rw [n1]; exact h10, h11, by rw [n2 _ (by omega) (by omega)]; exact h12⟩
theorem ClsIs.agr {S S1 : vSt} {m : Mst} (h : ClsIs S m) (e : Agr S S1 0 249) : ClsIs S1 m := by
  obtain ⟨h1, h2, h3, h4, h5, h6, h7, h8, h9⟩ := h
  have n2 : ∀ a, a < 249 → S1.2 a = S.2 a := fun a ha => (e a (by omega) ha).2
  have n1 : ∀ a, a < 249 → ∀ j, S1.1 a j = S.1 a j := fun a ha j => (e a (by omega) ha).1 j
  obtain ⟨l1, l2, l3, l4, l5, l6, l7, l8⟩ := h9
  refine ⟨⟨h1.1, by rw [n1 _ (by omega)]; exact h1.2.1, by rw [n2 _ (by omega)]; exact h1.2.2.1, by rw [n2 _ (by omega)]; exact h1.2.2.2.1, h1.2.2.2.2⟩, h2, h3.agr (e.sub (by omega) (by omega)), h4.agr (e.sub (by omega) (by omega)), by rw [n2 _ (by omega)]; exact h5, h6, ⟨h7.1, h7.2.1, by rw [n1 _ (by omega)]; exact h7.2.2.1, by rw [n2 _ (by omega)]; exact h7.2.2.2.1, by rw [n2 _ (by omega)]; exact h7.2.2.2.2.1, h7.2.2.2.2.2⟩, ⟨h8.1, h8.2.1, by rw [n1 _ (by omega)]; exact h8.2.2.1, by rw [n2 _ (by omega)]; exact h8.2.2.2.1, by rw [n2 _ (by omega)]; exact h8.2.2.2.2.1, h8.2.2.2.2.2⟩, by rw [n2 _ (by omega)]; exact l1, by rw [n2 _ (by omega)]; exact l2, by rw [n2 _ (by omega)]; exact l3, by rw [n2 _ (by omega)]; exact l4, by rw [n2 _ (by omega)]; exact l5, ⟨by rw [n2 _ (by omega)]; exact l6.1, by rw [n2 _ (by omega)]; exact l6.2.1, by rw [n2 _ (by omega)]; exact l6.2.2.1, by rw [n2 _ (by omega)]; exact l6.2.2.2.1, by rw [n2 _ (by omega)]; exact l6.2.2.2.2⟩, fun q hq => by rw [n2 _ (by omega)]; exact l7 q hq, fun q hq => by rw [n2 _ (by omega)]; exact l8 q hq⟩
def InvM (m : Mst) : Prop := Uniq m.2.1 ∧ Uniq m.2.2.1 ∧ (∀ o ∈ m.2.1, wfO o.1 o.2 ∧ allNm m.2.1 o 0) ∧ (∀ o ∈ m.2.2.1, wfO o.1 o.2) ∧ (∀ r ∈ m.2.2.2.1, r = -1 ∨ (fIdx m.2.1 r).isSome = true) ∧ (∀ id ∈ m.2.2.2.2.1, (fIdx m.2.1 id).isSome = true) ∧ m.2.2.2.2.1.Nodup
def Both (S : vSt) (m : Mst) : Prop := ClsIs S m ∧ ModIs S m ∧ InvM m
def Pair (S : vSt) (mi mj : Nat) (as : List Value) : Prop := ∃ (v : Int32) (S1 S2 : vSt) (m' : Mst), callv mi (.ref 1 :: as) (hp S) = some (some (.int v), hp S1) ∧ callv mj (.ref 249 :: as) (hp S1) = some (some (.int v), hp S2) ∧ Both S2 m' ∧ S2.2 0 = S.2 0
theorem pair_of {S : vSt} {m m' : Mst} {mi mj : Nat} {as : List Value} {v : Int32} (h : Both S m) (hC : Meth S mi as v m') (hR : ∀ S1, ModIs S1 m → RMeth S1 mj as v m') (hI : InvM m') : Pair S mi mj as := by
  obtain ⟨S1, c1, c2, c3⟩ := hC
  obtain ⟨S2, d1, d2, d3⟩ := hR S1 (h.2.1.agr c3)
  exact ⟨v, S1, S2, m', c1, d1, ⟨c2.agr d3, d2, hI⟩, (scr_keep d1).trans (scr_keep c1)⟩
theorem pair_if {S : vSt} {m m1 m2 : Mst} {mi mj : Nat} {as : List Value} {v w : Int32} {P : Prop} [Decidable P] (h : Both S m) (hC : if P then Meth S mi as v m1 else Meth S mi as w m2) (hR : ∀ S1, ModIs S1 m → if P then RMeth S1 mj as v m1 else RMeth S1 mj as w m2) (h1 : P → InvM m1) (h2 : ¬ P → InvM m2) : Pair S mi mj as := by
  by_cases q : P
  · rw [if_pos q] at hC
    exact pair_of h hC (fun S1 hM => by have := hR S1 hM; rw [if_pos q] at this; exact this) (h1 q)
  · rw [if_neg q] at hC
    exact pair_of h hC (fun S1 hM => by have := hR S1 hM; rw [if_neg q] at this; exact this) (h2 q)
theorem fIdx_app {os : List Obj} {x : Obj} {id : Int32} {j : Nat} (h : fIdx os id = some j) : fIdx (os ++ [x]) id = some j := by
  unfold fIdx at h ⊢
  rw [List.findIdx?_append, h]
  rfl
theorem fIdx_some {os : List Obj} {x : Obj} {id : Int32} (h : (fIdx os id).isSome = true) : (fIdx (os ++ [x]) id).isSome = true := by
  cases hf : fIdx os id with
  | none => rw [hf] at h; cases h
  | some j => rw [fIdx_app hf]; rfl
theorem nmd_app {os : List Obj} {o x : Obj} {i : Nat} (h : (nmd os o i).isSome = true) : (nmd (os ++ [x]) o i).isSome = true := by
  unfold nmd at h ⊢
  cases hf : fIdx os (nI (nmId o.1 o.2 i)) with
  | none => rw [hf] at h; cases h
  | some j =>
    have hj := fIdx_lt hf
    rw [hf] at h
    rw [fIdx_app hf]
    have e : (os ++ [x]).getD j (0, []) = os.getD j (0, []) := by rw [List.getD_eq_getElem?_getD, List.getD_eq_getElem?_getD, List.getElem?_append_left hj]
    simp only [e]
    exact h
theorem kp_mem : ∀ (t cs : List Obj) (o : Obj), o ∈ kpF cs t → o ∈ cs ∨ o ∈ t := by
  intro t
  induction t with
  | nil => intro cs o h; exact Or.inl h
  | cons x t ih =>
    intro cs o h
    unfold kpF at h
    rcases ih _ o h with q | q
    · split at q
      · rcases List.mem_append.mp q with z | z
        · exact Or.inl z
        · rw [List.mem_singleton.mp z]; exact Or.inr List.mem_cons_self
      · exact Or.inl q
    · exact Or.inr (List.mem_cons_of_mem _ q)
section PAIRS
variable {S : vSt} {bs : List Nat} {os cs : List Obj} {rf wn hv : List Int32}
theorem p_put (h : Both S (bs, os, cs, rf, wn, hv)) (w n : Int32) : Pair S 1 26 [.int w, .int n] := pair_if h (m_put h.1 w n) (fun _ hM => w_put hM w n) (fun _ => h.2.2) (fun _ => h.2.2)
theorem p_set (h : Both S (bs, os, cs, rf, wn, hv)) (p b : Int32) : Pair S 2 27 [.int p, .int b] := pair_if h (m_set h.1 p b) (fun _ hM => w_set hM p b) (fun _ => h.2.2) (fun _ => h.2.2)
theorem p_cut (h : Both S (bs, os, cs, rf, wn, hv)) (p : Int32) : Pair S 3 28 [.int p] := pair_if h (m_cut h.1 p) (fun _ hM => w_cut hM p) (fun _ => h.2.2) (fun _ => h.2.2)
theorem p_size (h : Both S (bs, os, cs, rf, wn, hv)) : Pair S 4 29 [] := pair_of h (m_size h.1) (fun _ hM => w_size hM) h.2.2
theorem p_at (h : Both S (bs, os, cs, rf, wn, hv)) (p : Int32) : Pair S 5 30 [.int p] := pair_of h (m_at h.1 p) (fun _ hM => w_at hM p) h.2.2
theorem p_ref (h : Both S (bs, os, cs, rf, wn, hv)) (p : Int32) : Pair S 8 43 [.int p] := pair_of h (m_ref h.1 p) (fun _ hM => w_ref hM p) h.2.2
theorem p_point (h : Both S (bs, os, cs, rf, wn, hv)) (r id : Int32) : Pair S 7 42 [.int r, .int id] := by
  obtain ⟨i1, i2, i3, i4, i5, i6, i7⟩ := h.2.2
  refine pair_if h (m_point h.1 r id) (fun _ hM => w_point hM i1 r id) (fun q => ⟨i1, i2, i3, i4, fun x hx => ?_, i6, i7⟩) (fun _ => h.2.2)
  rcases List.mem_or_eq_of_mem_set hx with z | z
  · exact i5 x z
  · subst z
    right
    have := q.2.2
    unfold isCm at this
    show (fIdx os x).isSome = true
    cases hf : fIdx os x with
    | none => rw [hf] at this; cases this
    | some j => rfl
theorem p_have (h : Both S (bs, os, cs, rf, wn, hv)) (id : Int32) : Pair S 10 45 [.int id] := pair_if h (m_have h.1 id) (fun _ hM => w_have hM id) (fun _ => h.2.2) (fun _ => h.2.2)
theorem p_want (h : Both S (bs, os, cs, rf, wn, hv)) (id : Int32) : Pair S 9 44 [.int id] := by
  obtain ⟨i1, i2, i3, i4, i5, i6, i7⟩ := h.2.2
  simp only at i1 i2 i3 i4 i5 i6 i7
  have hol : os.length ≤ 16 := h.2.1.2.2.2.2.1.2.2.1
  have hfit : id ≠ -1 → id ∈ rf → ¬ id ∈ wn → wn.length < 16 := by
    intro h1 h2 h3
    have hs : (fIdx os id).isSome = true := (i5 id h2).resolve_left h1
    have hnd : (id :: wn).Nodup := List.nodup_cons.mpr ⟨h3, i7⟩
    have hsub : (id :: wn) ⊆ os.map (fun o => nI (oid o.1 o.2)) := by
      intro x hx
      have hx2 : (fIdx os x).isSome = true := by
        rcases List.mem_cons.mp hx with z | z
        · rw [z]; exact hs
        · exact i6 x z
      cases hf : fIdx os x with
      | none => rw [hf] at hx2; cases hx2
      | some j =>
        have hj := fIdx_lt hf
        have := fIdx_is hf
        rw [← this]
        have e : oAt os j = os[j] := by unfold oAt; rw [List.getD_eq_getElem?_getD, List.getElem?_eq_getElem hj]; rfl
        rw [e]
        exact List.mem_map.mpr ⟨os[j], List.getElem_mem hj, rfl⟩
    have := List.Nodup.length_le_of_subset hnd hsub
    rw [List.length_map, List.length_cons] at this
    omega
  have hw : wn.length < 16 ∨ id ∈ wn ∨ id = -1 ∨ ¬ id ∈ rf := by
    by_cases c1 : id = -1
    · exact Or.inr (Or.inr (Or.inl c1))
    · by_cases c2 : id ∈ rf
      · by_cases c3 : id ∈ wn
        · exact Or.inr (Or.inl c3)
        · exact Or.inl (hfit c1 c2 c3)
      · exact Or.inr (Or.inr (Or.inr c2))
  refine pair_if h (m_want h.1 id) (fun _ hM => w_want hM i1 i5 id hw) (fun q => ?_) (fun _ => h.2.2)
  by_cases c : wn.length < 16 ∧ ¬ id ∈ wn
  · rw [if_pos c]
    refine ⟨i1, i2, i3, i4, i5, fun x hx => ?_, ?_⟩
    · rcases List.mem_append.mp hx with z | z
      · exact i6 x z
      · rw [List.mem_singleton.mp z]
        exact (i5 id q.2).resolve_left q.1
    · show (wn ++ [id]).Nodup
      rw [List.nodup_append]
      refine ⟨i7, by simp, ?_⟩
      intro x hx y hy e
      rw [List.mem_singleton] at hy
      subst hy
      subst e
      exact c.2 hx
  · rw [if_neg c]
    exact h.2.2
theorem p_forget (h : Both S (bs, os, cs, rf, wn, hv)) : Pair S 13 68 [] := by
  obtain ⟨i1, i2, i3, i4, i5, i6, i7⟩ := h.2.2
  exact pair_of h (m_forget h.1) (fun _ hM => w_forget hM) ⟨i1, List.nodup_nil, i3, fun o ho => (by cases ho), i5, i6, i7⟩
theorem p_kind (h : Both S (bs, os, cs, rf, wn, hv)) (s id : Int32) : Pair S 14 70 [.int s, .int id] := pair_of h (m_kind h.1 s id) (fun _ hM => w_kind hM h.2.2.1 h.2.2.2.1 s id) h.2.2
theorem p_length (h : Both S (bs, os, cs, rf, wn, hv)) (s id : Int32) : Pair S 15 71 [.int s, .int id] := pair_of h (m_length h.1 s id) (fun _ hM => w_length hM h.2.2.1 h.2.2.2.1 s id) h.2.2
theorem p_content (h : Both S (bs, os, cs, rf, wn, hv)) (s id i : Int32) : Pair S 16 72 [.int s, .int id, .int i] := pair_of h (m_content h.1 s id i) (fun _ hM => w_content hM h.2.2.1 h.2.2.2.1 s id i) h.2.2
theorem p_count (h : Both S (bs, os, cs, rf, wn, hv)) (s : Int32) : Pair S 18 74 [.int s] := pair_of h (m_count h.1 s) (fun _ hM => w_count hM s) h.2.2
theorem p_closure (h : Both S (bs, os, cs, rf, wn, hv)) (s id : Int32) : Pair S 17 73 [.int s, .int id] := by
  obtain ⟨i1, i2, i3, i4, i5, i6, i7⟩ := h.2.2
  simp only at i1 i2 i3 i4
  have hol : os.length ≤ cap0 0 := h.2.1.2.2.2.2.1.2.2.1
  have hcl : cs.length ≤ cap0 1 := h.2.1.2.2.2.2.2.1.2.2.1
  have e : (match sideOf os cs s with | none => (-1 : Int32) | some l => cloN l id) = if s = 0 then cloR 0 os id else if s = 1 then cloR 1 cs id else -1 := by
    unfold sideOf
    by_cases z0 : s = 0
    · rw [if_pos z0, if_pos z0, clo_eq hol]
    · rw [if_neg z0, if_neg z0]
      by_cases z1 : s = 1
      · rw [if_pos z1, if_pos z1, clo_eq hcl]
      · rw [if_neg z1, if_neg z1]
  have hm := Eq.mp (congrArg (fun v => Meth S 17 [.int s, .int id] v (bs, os, cs, rf, wn, hv)) e) (m_closure h.1 s id)
  exact pair_of h hm (fun _ hM => w_closure hM i1 i2 (fun o ho => (i3 o ho).1) i4 s id) h.2.2
theorem p_serve (h : Both S (bs, os, cs, rf, wn, hv)) : Pair S 11 55 [] := by
  obtain ⟨i1, i2, i3, i4, i5, i6, i7⟩ := h.2.2
  simp only at i1 i2 i3 i4 i5 i6 i7
  cases wn with
  | nil => exact pair_of h (m_serve0 h.1) (fun _ hM => w_serve0 hM) h.2.2
  | cons x t =>
    have hne : x :: t ≠ [] := fun q => by cases q
    exact pair_of h (m_serve h.1 hne) (fun _ hM => w_serve hM i1 i3 hne) ⟨i1, i2, i3, i4, i5, fun id hid => (by cases hid), List.nodup_nil⟩
theorem p_receive (h : Both S (bs, os, cs, rf, wn, hv)) : Pair S 12 67 [] := by
  obtain ⟨i1, i2, i3, i4, i5, i6, i7⟩ := h.2.2
  simp only at i1 i2 i3 i4 i5 i6 i7
  refine pair_of h (m_receive h.1) (fun _ hM => w_receive hM i2) ⟨i1, ?_, i3, ?_, i5, i6, i7⟩
  · show Uniq (rcv bs cs).2
    unfold rcv
    split
    · exact i2
    · split
      · split
        · split
          · exact uniq_kp _ _ i2
          · exact i2
        · exact i2
      · exact i2
  · show ∀ o ∈ (rcv bs cs).2, wfO o.1 o.2
    unfold rcv
    split
    · exact i4
    · split
      · split
        · rename_i hs
          split
          · intro o ho
            rcases kp_mem _ _ o ho with z | z
            · exact i4 o z
            · obtain ⟨j, hj, rfl⟩ := List.getElem_of_mem z
              exact (hs j hj (Nat.zero_le _)).1
          · exact i4
        · exact i4
      · exact i4
theorem p_store (h : Both S (bs, os, cs, rf, wn, hv)) (k : Int32) : Pair S 6 40 [.int k] := by
  obtain ⟨i1, i2, i3, i4, i5, i6, i7⟩ := h.2.2
  simp only at i1 i2 i3 i4 i5 i6 i7
  by_cases c : ¬ k < 1 ∧ k ≤ 3 ∧ bs.length ≤ 24
  · obtain ⟨x, hx, rfl⟩ := nat_of (N := 3) (fun q => c.1 (Int32.lt_trans q (by decide))) c.2.1 (by omega)
    have hx1 : 1 ≤ x := by
      rcases Nat.eq_zero_or_pos x with q | q
      · subst q; exact absurd (show nI 0 < 1 by decide) c.1
      · exact q
    refine pair_of h (m_store h.1 hx1 hx c.2.2) (fun _ hM => w_store hM i1 i3 i6 hx1 hx c.2.2) ?_
    unfold sto
    split
    · split
      · exact ⟨i1, i2, i3, i4, i5, i6, i7⟩
      · exact ⟨i1, i2, i3, i4, i5, i6, i7⟩
    · rename_i hf
      split
      · rename_i hq
        obtain ⟨q1, q2, q3⟩ := hq
        refine ⟨uniq_snoc i1 hf, i2, fun o ho => ?_, i4, fun r hr => ?_, fun id hid => fIdx_some (i6 id hid), i7⟩
        · have hmono : ∀ o2 : Obj, allNm os o2 0 → allNm (os ++ [(x, bs)]) o2 0 := fun o2 ha q h1 h2 => nmd_app (ha q h1 h2)
          rcases List.mem_append.mp ho with z | z
          · exact ⟨(i3 o z).1, hmono o (i3 o z).2⟩
          · rw [List.mem_singleton.mp z]
            exact ⟨q2, hmono _ q3⟩
        · rcases i5 r hr with z | z
          · exact Or.inl z
          · exact Or.inr (fIdx_some z)
      · exact ⟨i1, i2, i3, i4, i5, i6, i7⟩
  · exact pair_of h (m_store0 h.1 k c) (fun _ hM => w_store0 hM k c) h.2.2
end PAIRS
