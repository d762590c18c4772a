/-! the run of the law, with what it makes -/
theorem hpL_len (S : vSt) : ∀ (l : List (Nat × List (Option Nat))) (b : Nat), (hpL S l b).length = l.length := by
  intro l
  induction l with
  | nil => intro b; rfl
  | cons c l ih => intro b; show (vcellS S b c :: hpL S l (b + 1)).length = _; rw [List.length_cons, List.length_cons, ih]
theorem sk_len : sk.length = 267 := by decide +kernel
theorem hp_len (S : vSt) : (hp S).length = 267 := (hpL_len S sk 0).trans sk_len
theorem keep_vz {h h1 : vH} (k : keepL h h1) (hl : h1.length = h.length) : vz h1 = vz h := by
  unfold vz
  congr 1
  apply List.ext_getElem?
  intro i
  rw [List.getElem?_map, List.getElem?_map]
  cases hi : h[i]? with
  | none =>
    have : h.length ≤ i := List.getElem?_eq_none_iff.mp hi
    rw [List.getElem?_eq_none (by omega)]
  | some c =>
    obtain ⟨d, h2, h3, h4⟩ := k i c hi
    rw [h2]
    exact congrArg some h4
theorem vz_H1 : vz H1 ≤ 20000 := by decide +kernel
theorem law_run (xs : List Int32) (hl : xs.length ≤ 2048) : ∃ f H, vexec f 166 0 (vinit 166 [.ref 0]) [] [(104, xs.map Value.int)] = some (some (.int 1), H) ∧ H.length = 267 ∧ vz H ≤ 30000 := by
  have hI : InvM m0 := ⟨List.nodup_nil, List.nodup_nil, fun o ho => (by cases ho), fun o ho => (by cases ho), fun r hr => by
    left
    simp only [m0, List.mem_cons, List.not_mem_nil, or_false] at hr
    rcases hr with z | z | z | z <;> exact z, fun id hid => (by cases hid), List.nodup_nil⟩
  obtain ⟨S1, g⟩ := c_law hl 513 0 (S0 xs) m0 (by omega) (by omega) (S0_0 xs) ⟨i_cls xs, i_mod xs, hI⟩
  have g0 : runv 166 0 (vinit 166 [.ref 0]) [] [(104, xs.map Value.int)] = some (some (.int 1), hp S1) := by
    show runv 166 0 [some (.ref 0), none, none, none] [] [(104, xs.map Value.int)] = _
    rw [c_law0, ← g]
    simp only [s166_16, s166_17]
    rfl
  obtain ⟨f, hf⟩ := runv_iff.mp g0
  obtain ⟨f2, hf2⟩ := runv_iff.mp g
  have hk := keep_vz (vexec_keep hf2) ((hp_len S1).trans (hp_len (S0 xs)).symm)
  refine ⟨f, hp S1, hf, hp_len S1, ?_⟩
  rw [hk, hp_S0]
  have e : vz (H0 xs) = xs.length + vz H1 := by
    show ((104, xs.map Value.int) :: H1 |>.map fun c => c.2.length).sum = _
    rw [List.map_cons, List.sum_cons, List.length_map]
    rfl
  have := vz_H1
  omega
/-! what the tables say of classes and arrays -/
theorem vinst : ∀ (c : Nat) (q : vw_C), vcl[c]? = some q → Cond.instantiable q.1 q.2.2 ∈ vWS := by
  intro c q hq
  have pick : ∀ {mi pc idx len r1 r2 : Nat}, vcode mi pc = some (.new idx, len, r1, r2) → r1 = c → Cond.instantiable q.1 q.2.2 ∈ vWS := fun h e => by
    obtain ⟨q2, e2, _, h2, _⟩ := vok_new h
    rw [e, hq] at e2
    cases e2
    exact h2
  have hlt : c < 10 := (List.getElem?_eq_some_iff.mp hq).1
  rcases (show c = 0 ∨ c = 1 ∨ c = 2 ∨ c = 3 ∨ c = 4 ∨ c = 5 ∨ c = 6 ∨ c = 7 ∨ c = 8 ∨ c = 9 by omega) with e | e | e | e | e | e | e | e | e | e
  · exact pick (show vcode 166 0 = some (.new 7, 3, 0, 0) from rfl) e.symm
  · exact pick (show vcode 0 5 = some (.new 7, 3, 1, 0) from rfl) e.symm
  · exact pick (show vcode 0 71 = some (.new 45, 3, 2, 0) from rfl) e.symm
  · exact pick (show vcode 0 45 = some (.new 28, 3, 3, 0) from rfl) e.symm
  · exact pick (show vcode 0 19 = some (.new 18, 3, 4, 0) from rfl) e.symm
  · exact pick (show vcode 0 97 = some (.new 55, 3, 5, 0) from rfl) e.symm
  · exact pick (show vcode 0 123 = some (.new 65, 3, 6, 0) from rfl) e.symm
  · exact pick (show vcode 109 36 = some (.new 19, 3, 7, 0) from rfl) e.symm
  · exact pick (show vcode 0 142 = some (.new 74, 3, 8, 0) from rfl) e.symm
  · exact pick (show vcode 166 8 = some (.new 10, 3, 9, 0) from rfl) e.symm
theorem vlayA : ∀ (c : Nat) (q : vw_C), vcl[c]? = some q → ∀ w ∈ u_ws q.1 q.2.1 q.2.2, w ∈ vWS
  | 0, _, hq => by cases hq; exact vlay0
  | 1, _, hq => by cases hq; exact vlay1
  | 2, _, hq => by cases hq; exact vlay2
  | 3, _, hq => by cases hq; exact vlay3
  | 4, _, hq => by cases hq; exact vlay4
  | 5, _, hq => by cases hq; exact vlay5
  | 6, _, hq => by cases hq; exact vlay6
  | 7, _, hq => by cases hq; exact vlay7
  | 8, _, hq => by cases hq; exact vlay8
  | 9, _, hq => by cases hq; exact vlay9
  | n + 10, _, hq => by cases hq
theorem vknown {s : State} {b : Nat} (hts : ∀ w ∈ lw_tbl, w.before #[Value.ref b] s = true) : ∃ (D : va_G) (cA : Nat → ClassId), vKn D cA s := by
  have hws : ∀ w ∈ vWS, w.before #[Value.ref b] s = true := fun w hw => hts w (List.mem_filter.mp hw).1
  have hex : ∀ c : Nat, ∃ d : ClassId × (Nat → Nat), ∀ q : vw_C, vcl[c]? = some q → u_Kn s q.1 q.2.1 q.2.2 d.1 d.2 := by
    intro c
    cases hq : vcl[c]? with
    | some q =>
      obtain ⟨cC, iS, h⟩ := u_known (n := q.2.2) hws (vlayA c q hq) (hws _ (vinst c q hq))
      exact ⟨(cC, iS), fun q2 e => by cases e; exact h⟩
    | none =>
      obtain ⟨cC, iS, h⟩ := u_known (n := 11) hws vlay0 (hws _ (vinst 0 _ rfl))
      exact ⟨(cC, iS), fun q2 e => by cases e⟩
  obtain ⟨c0, k0, p0, i1, i2, i3⟩ := Cond.arrayClass_spec (hws _ vaw.1)
  obtain ⟨c1, k1, p1, j1, j2, j3⟩ := Cond.arrayClass_spec (hws _ vaw.2.1)
  obtain ⟨p2, c2, k2, a1, a2, a3, a4, a5⟩ := Cond.arrayOver_spec (hts _ vaw.2.2.1)
  obtain ⟨p3, c3, k3, b1, b2, b3, b4, b5⟩ := Cond.arrayOver_spec (hts _ vaw.2.2.2)
  refine ⟨(fun c => (Classical.choose (hex c)).1, fun c => (Classical.choose (hex c)).2), fun t => if t = 100 then c0 else if t = 101 then c1 else if t = 102 then c2 else c3, ⟨fun c q hq => Classical.choose_spec (hex c) q hq, fun k q hk => ?_⟩, fun w hw hn => ?_, va_AO.of (hts _ vaw.2.2.1), va_AO.of (hts _ vaw.2.2.2)⟩
  · match k, hk with
    | 0, hk => cases hk; exact ⟨fun n z => ⟨fun k h => (by cases h), k0, i2, p0, i3⟩, i1⟩
    | 1, hk => cases hk; exact ⟨fun n z => ⟨fun k h => (by cases h), k1, j2, p1, j3⟩, j1⟩
    | 2, hk => cases hk; exact ⟨fun n z => ⟨fun k h => (by cases h), k2, a3, p2, a4⟩, k2, p2, a3, a4, a1, a5⟩
    | 3, hk => cases hk; exact ⟨fun n z => ⟨fun k h => (by cases h), k3, b3, p3, b4⟩, k3, p3, b3, b4, b1, b5⟩
    | n + 4, hk => cases hk
  · have h4 := hts w hw
    cases w <;> first | exact va_Nw.of rfl h4 | (simp [vnest] at hn; done)
