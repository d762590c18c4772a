/-! closures: all rounds, and the queue -/
theorem cntF_mono {f g : Nat → Bool} (h : ∀ j, f j = true → g j = true) : ∀ n, cntF f n ≤ cntF g n := by
  intro n
  induction n with
  | zero => exact Nat.le_refl _
  | succ n ih =>
    unfold cntF
    cases e : f n with
    | true => rw [h n e, if_pos rfl, if_pos rfl]; omega
    | false =>
      rw [if_neg (by decide)]
      split <;> omega
theorem cntF_lt {f g : Nat → Bool} (h : ∀ j, f j = true → g j = true) {j : Nat} (hf : f j = false) (hg : g j = true) : ∀ n, j < n → cntF f n < cntF g n := by
  intro n
  induction n with
  | zero => intro q; omega
  | succ n ih =>
    intro q
    unfold cntF
    by_cases e : j = n
    · subst e
      rw [hf, hg, if_neg (by decide), if_pos rfl]
      have := cntF_mono h j
      omega
    · have h1 := ih (by omega)
      cases e2 : f n with
      | true => rw [h n e2, if_pos rfl, if_pos rfl]; omega
      | false =>
        rw [if_neg (by decide)]
        split <;> omega
theorem clL_spec {os : List Obj} {b : Nat} {C : Nat → Prop} (hC : ∀ k j, C (b + k) → stp os k j → C (b + j)) : ∀ n (st : Cst), os.length < n + cntF (fun j => st.1 (b + j)) os.length → (∀ x, st.1 x = true → C x) → st.2.2 = true → (∀ x, st.1 x = true → (clL os b n st).1 x = true) ∧ (∀ x, (clL os b n st).1 x = true → C x) ∧ (∀ q j, (clL os b n st).1 (b + q) = true → stp os q j → (clL os b n st).1 (b + j) = true) ∧ ((clL os b n st).2.1 = true → st.2.1 = true ∧ ∀ q, (clL os b n st).1 (b + q) = true → ¬ bad os q) ∧ ((clL os b n st).2.1 = false → st.2.1 = false ∨ ∃ q, C (b + q) ∧ bad os q) := by
  intro n
  induction n with
  | zero =>
    intro st hn
    have := cntF_le (fun j => st.1 (b + j)) os.length
    omega
  | succ n ih =>
    intro st hn hst hm
    unfold clL
    rw [if_pos hm]
    obtain ⟨a1, a2, a2b, a3, a4, a5, a6⟩ := clR_spec hC os 0 (st.1, st.2.1, false) List.drop_zero hst
    cases hm2 : (clR os b os 0 (st.1, st.2.1, false)).2.2 with
    | false =>
      have e : clL os b n (clR os b os 0 (st.1, st.2.1, false)) = clR os b os 0 (st.1, st.2.1, false) := by
        cases n with
        | zero => rfl
        | succ n => unfold clL; rw [hm2]; exact if_neg (by decide)
      rw [e]
      obtain ⟨_, b2, b3, b4⟩ := a3 hm2
      simp only at b2 b3 b4 a6
      refine ⟨a1, a2, fun q j h1 h2 => ?_, fun h => ⟨(b3.mp h).1, fun q h2 => (b3.mp h).2 q (Nat.zero_le _) (by rw [b2] at h2; exact h2)⟩, a6⟩
      rw [b2] at h1 ⊢
      exact b4 q j (Nat.zero_le _) h1 h2
    | true =>
      rcases a4 hm2 with z | ⟨x, z1, z2⟩
      · exact absurd z (show ¬ (false = true) by decide)
      · simp only at z2 a2b
        have hx : ∃ j, j < os.length ∧ x = b + j := by
          rcases a2b x z1 with w | w
          · rw [z2] at w; cases w
          · exact w
        obtain ⟨j, hj, rfl⟩ := hx
        have hlt := cntF_lt (f := fun j => st.1 (b + j)) (g := fun j => (clR os b os 0 (st.1, st.2.1, false)).1 (b + j)) (fun j h => a1 _ h) z2 z1 os.length hj
        obtain ⟨c1, c2, c3, c4, c5⟩ := ih _ (by omega) a2 hm2
        refine ⟨fun x h => c1 x (a1 x h), c2, c3, fun h => ⟨a5 (c4 h).1, (c4 h).2⟩, fun h => ?_⟩
        rcases c5 h with w | w
        · exact a6 w
        · exact Or.inr w
theorem mkU_iff {f : Nat → Bool} {j x : Nat} : mkU f j x = true ↔ f x = true ∨ x = j := by
  unfold mkU
  split
  · rename_i e; exact ⟨fun _ => Or.inr e, fun _ => rfl⟩
  · rename_i e; exact ⟨Or.inl, fun h => h.resolve_right e⟩
theorem cls_spec {os : List Obj} {b p : Nat} {f : Nat → Bool} (hl : os.length ≤ 24) (hp0 : p < os.length) (hf : ∀ k j, f (b + k) = true → stp os k j → f (b + j) = true) : (∀ x, (cls os b f p).1 x = true ↔ f x = true ∨ ∃ q, x = b + q ∧ Rch os p q) ∧ ((cls os b f p).2.1 = true ↔ ∀ q, (cls os b f p).1 (b + q) = true → ¬ bad os q) := by
  have hC : ∀ k j, (f (b + k) = true ∨ ∃ q, b + k = b + q ∧ Rch os p q) → stp os k j → (f (b + j) = true ∨ ∃ q, b + j = b + q ∧ Rch os p q) := by
    rintro k j (h | ⟨q, h1, h2⟩) g
    · exact Or.inl (hf k j h g)
    · have : k = q := by omega
      subst this
      exact Or.inr ⟨j, rfl, h2.st g⟩
  have hcnt : os.length < 25 + cntF (fun j => mkU f (b + p) (b + j)) os.length := by omega
  have hs0 : ∀ x, mkU f (b + p) x = true → f x = true ∨ ∃ q, x = b + q ∧ Rch os p q := by
    intro x hx
    rcases mkU_iff.mp hx with h | h
    · exact Or.inl h
    · exact Or.inr ⟨p, h, Rch.rf⟩
  obtain ⟨a1, a2, a3, a4, a5⟩ := clL_spec (C := fun x => f x = true ∨ ∃ q, x = b + q ∧ Rch os p q) hC 25 (mkU f (b + p), true, true) hcnt hs0 rfl
  have iff1 : ∀ x, (cls os b f p).1 x = true ↔ f x = true ∨ ∃ q, x = b + q ∧ Rch os p q := by
    intro x
    refine ⟨a2 x, ?_⟩
    rintro (h | ⟨q, h1, h2⟩)
    · exact a1 x (mkU_iff.mpr (Or.inl h))
    · subst h1
      exact h2 (fun q => (cls os b f p).1 (b + q) = true) (a1 _ (mkU_iff.mpr (Or.inr rfl))) (fun k i h3 h4 => a3 k i h3 h4)
  refine ⟨iff1, fun h => (a4 h).2, fun h => ?_⟩
  cases e : (cls os b f p).2.1 with
  | true => rfl
  | false =>
    rcases a5 e with w | ⟨q, w1, w2⟩
    · exact absurd w (show ¬ (true = false) by decide)
    · exact absurd w2 (h q ((iff1 _).mpr w1))
/-! the queue of the class -/
theorem ins_pre (ms : List Nat) (j : Nat) : ∃ t, ins ms j = ms ++ t := by
  unfold ins
  split
  · exact ⟨[], (List.append_nil _).symm⟩
  · exact ⟨[j], rfl⟩
theorem ins_nd {ms : List Nat} (h : ms.Nodup) (j : Nat) : (ins ms j).Nodup := by
  unfold ins
  split
  · exact h
  · rename_i hm
    rw [List.nodup_append]
    refine ⟨h, by simp, ?_⟩
    intro x hx y hy e
    rw [List.mem_singleton] at hy
    subst hy
    subst e
    exact hm hx
theorem mkN_spec {os : List Obj} {o : Obj} : ∀ n i (ms : List Nat), ms.Nodup → (∃ t, (mkN os o n i ms).2 = ms ++ t) ∧ (mkN os o n i ms).2.Nodup ∧ (∀ x, x ∈ (mkN os o n i ms).2 → x ∈ ms ∨ ∃ t, i ≤ t ∧ t < i + n ∧ nmd os o t = some x) ∧ ((mkN os o n i ms).1 = true → ∀ t, i ≤ t → t < i + n → ∃ j, nmd os o t = some j ∧ j ∈ (mkN os o n i ms).2) ∧ ((mkN os o n i ms).1 = false → ∃ t, i ≤ t ∧ t < i + n ∧ nmd os o t = none) := by
  intro n
  induction n with
  | zero =>
    intro i ms h
    exact ⟨⟨[], (List.append_nil _).symm⟩, h, fun x hx => Or.inl hx, fun _ t h1 h2 => by omega, fun h => absurd h (show ¬ (true = false) by decide)⟩
  | succ n ih =>
    intro i ms h
    unfold mkN
    cases hn : nmd os o i with
    | none =>
      exact ⟨⟨[], (List.append_nil _).symm⟩, h, fun x hx => Or.inl hx, fun h => absurd h (show ¬ (false = true) by decide), fun _ => ⟨i, by omega, by omega, hn⟩⟩
    | some j =>
      obtain ⟨⟨t, a1⟩, a2, a3, a4, a5⟩ := ih (i + 1) (ins ms j) (ins_nd h j)
      obtain ⟨t0, e0⟩ := ins_pre ms j
      refine ⟨⟨t0 ++ t, by simp only; rw [a1, e0, List.append_assoc]⟩, a2, fun x hx => ?_, fun h => fun t1 h1 h2 => ?_, fun h => ?_⟩
      · rcases a3 x hx with q | ⟨t1, h1, h2, h3⟩
        · rcases ins_mem.mp q with q | rfl
          · exact Or.inl q
          · exact Or.inr ⟨i, by omega, by omega, hn⟩
        · exact Or.inr ⟨t1, by omega, by omega, h3⟩
      · by_cases e : t1 = i
        · subst e
          refine ⟨j, hn, ?_⟩
          simp only
          rw [a1]
          exact List.mem_append_left _ (ins_mem.mpr (Or.inr rfl))
        · exact a4 h t1 (by omega) (by omega)
      · obtain ⟨t1, h1, h2, h3⟩ := a5 h
        exact ⟨t1, by omega, by omega, h3⟩
/-- what stands before place i of the queue has been looked at -/
def seen (os : List Obj) (ms : List Nat) (i : Nat) : Prop := ∀ k ∈ ms.take i, ¬ bad os k ∧ ∀ j, stp os k j → j ∈ ms
theorem bfs_spec {os : List Obj} {C : Nat → Prop} (hC : ∀ k j, C k → stp os k j → C j) : ∀ n i (ms : List Nat), os.length < i + n → ms.Nodup → (∀ k ∈ ms, k < os.length ∧ C k) → seen os ms i → ((bfs os n i ms).1 = true → (∀ x ∈ ms, x ∈ (bfs os n i ms).2) ∧ (bfs os n i ms).2.Nodup ∧ (∀ k ∈ (bfs os n i ms).2, k < os.length ∧ C k ∧ ¬ bad os k ∧ ∀ j, stp os k j → j ∈ (bfs os n i ms).2)) ∧ ((bfs os n i ms).1 = false → ∃ k, C k ∧ bad os k) := by
  intro n
  induction n with
  | zero =>
    intro i ms hn hnd hms hs
    have hl := nodup_len hnd (fun j hj => (hms j hj).1)
    refine ⟨fun _ => ⟨fun x h => h, hnd, fun k hk => ?_⟩, fun h => absurd h (show ¬ (true = false) by decide)⟩
    have := hs k (by rw [List.take_of_length_le (by omega)]; exact hk)
    exact ⟨(hms k hk).1, (hms k hk).2, this.1, this.2⟩
  | succ n ih =>
    intro i ms hn hnd hms hs
    unfold bfs
    by_cases hil : i < ms.length
    · rw [if_pos hil]
      have hg : ms.getD i 0 = ms[i] := by rw [List.getD_eq_getElem?_getD, List.getElem?_eq_getElem hil]; rfl
      have hmi : ms.getD i 0 ∈ ms := by rw [hg]; exact List.getElem_mem hil
      have hq := hms _ hmi
      obtain ⟨⟨t, a1⟩, a2, a3, a4, a5⟩ := mkN_spec (os := os) (o := oAt os (ms.getD i 0)) (nmN (oAt os (ms.getD i 0)).1 (oAt os (ms.getD i 0)).2.length) 0 ms hnd
      cases hr : (mkN os (oAt os (ms.getD i 0)) (nmN (oAt os (ms.getD i 0)).1 (oAt os (ms.getD i 0)).2.length) 0 ms).1 with
      | false =>
        rw [if_neg (by decide)]
        refine ⟨fun h => absurd h (show ¬ (false = true) by decide), fun _ => ?_⟩
        obtain ⟨t1, _, h2, h3⟩ := a5 hr
        exact ⟨ms.getD i 0, hq.2, hq.1, t1, by omega, h3⟩
      | true =>
        rw [if_pos rfl]
        have a4 := a4 hr
        generalize hM : (mkN os (oAt os (ms.getD i 0)) (nmN (oAt os (ms.getD i 0)).1 (oAt os (ms.getD i 0)).2.length) 0 ms).2 = M at a1 a2 a3 a4
        have sub : ∀ x ∈ ms, x ∈ M := fun x hx => by rw [a1]; exact List.mem_append_left _ hx
        obtain ⟨c1, c2⟩ := ih (i + 1) M (by omega) a2 (fun k hk => by
          rcases a3 k hk with q | ⟨t1, _, h2, h3⟩
          · exact hms k q
          · exact ⟨nmd_lt h3, hC _ _ hq.2 ⟨hq.1, t1, by omega, h3⟩⟩) (fun k hk => by
          rw [a1, List.take_append_of_le_length (by omega), List.take_succ, List.getElem?_eq_getElem hil] at hk
          rcases List.mem_append.mp hk with q | q
          · exact ⟨(hs k q).1, fun j hj => sub j ((hs k q).2 j hj)⟩
          · have e : k = ms[i] := by simpa using q
            rw [← hg] at e
            subst e
            refine ⟨?_, ?_⟩
            · rintro ⟨_, t1, h2, h3⟩
              obtain ⟨j, h4, _⟩ := a4 t1 (by omega) (by omega)
              rw [h3] at h4
              cases h4
            · rintro j ⟨_, t1, h2, h3⟩
              obtain ⟨j2, h4, h5⟩ := a4 t1 (by omega) (by omega)
              rw [h3] at h4
              cases h4
              exact h5)
        refine ⟨fun h => ?_, c2⟩
        obtain ⟨d1, d2, d3⟩ := c1 h
        exact ⟨fun x hx => d1 x (sub x hx), d2, d3⟩
    · rw [if_neg hil]
      refine ⟨fun _ => ⟨fun x h => h, hnd, fun k hk => ?_⟩, fun h => absurd h (show ¬ (true = false) by decide)⟩
      have := hs k (by rw [List.take_of_length_le (by omega)]; exact hk)
      exact ⟨(hms k hk).1, (hms k hk).2, this.1, this.2⟩
/-- a closure joined to a closed list -/
theorem incl_spec {os : List Obj} {N p : Nat} {id : Int32} {ms : List Nat} (hN : os.length ≤ N) (hf : fIdx os id = some p) (hnd : ms.Nodup) (hlt : ∀ k ∈ ms, k < os.length) (hcl : ∀ k ∈ ms, ¬ bad os k ∧ ∀ j, stp os k j → j ∈ ms) : ((incl os N id ms).1 = true → (incl os N id ms).2.Nodup ∧ (∀ x, x ∈ (incl os N id ms).2 ↔ x ∈ ms ∨ Rch os p x) ∧ (∀ k ∈ (incl os N id ms).2, k < os.length ∧ ¬ bad os k ∧ ∀ j, stp os k j → j ∈ (incl os N id ms).2)) ∧ ((incl os N id ms).1 = false → ∃ k, Rch os p k ∧ bad os k) := by
  have hp0 := fIdx_lt hf
  have e : incl os N id ms = bfs os (N + 1) ms.length (ins ms p) := by unfold incl; rw [hf]
  rw [e]
  obtain ⟨t, ht⟩ := ins_pre ms p
  obtain ⟨c1, c2⟩ := bfs_spec (os := os) (C := fun k => k ∈ ms ∨ Rch os p k) (by
    rintro k j (h | h) g
    · exact Or.inl ((hcl k h).2 j g)
    · exact Or.inr (h.st g)) (N + 1) ms.length (ins ms p) (by omega) (ins_nd hnd p) (fun k hk => by
    rcases ins_mem.mp hk with q | rfl
    · exact ⟨hlt k q, Or.inl q⟩
    · exact ⟨hp0, Or.inr Rch.rf⟩) (fun k hk => by
    rw [ht, List.take_left' rfl] at hk
    exact ⟨(hcl k hk).1, fun j hj => ins_mem.mpr (Or.inl ((hcl k hk).2 j hj))⟩)
  refine ⟨fun h => ?_, fun h => ?_⟩
  · obtain ⟨d1, d2, d3⟩ := c1 h
    refine ⟨d2, fun x => ⟨fun hx => (d3 x hx).2.1, ?_⟩, fun k hk => ⟨(d3 k hk).1, (d3 k hk).2.2⟩⟩
    rintro (hx | hx)
    · exact d1 x (ins_mem.mpr (Or.inl hx))
    · exact hx (fun x => x ∈ (bfs os (N + 1) ms.length (ins ms p)).2) (d1 p (ins_mem.mpr (Or.inr rfl))) (fun k i h1 h2 => (d3 k h1).2.2.2 i h2)
  · obtain ⟨k, h1 | h1, h2⟩ := c2 h
    · exact absurd h2 (hcl k h1).1
    · exact ⟨k, h1, h2⟩
