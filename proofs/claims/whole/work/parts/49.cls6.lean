/-! the class: serve -/
theorem bfs_lt {os : List Obj} : ∀ n i ms, (∀ j ∈ ms, j < os.length) → ∀ j ∈ (bfs os n i ms).2, j < os.length := by
  intro n
  induction n with
  | zero => intro i ms h; exact h
  | succ n ih =>
    intro i ms h
    unfold bfs
    split
    · split
      · exact ih _ _ (mkN_lt (Nat.le_refl _) _ _ _ h)
      · exact mkN_lt (Nat.le_refl _) _ _ _ h
    · exact h
theorem incl_lt {os : List Obj} {N : Nat} {id : Int32} {ms : List Nat} (h : ∀ j ∈ ms, j < os.length) : ∀ j ∈ (incl os N id ms).2, j < os.length := by
  unfold incl
  split
  · exact h
  · rename_i p hp
    refine bfs_lt _ _ _ ?_
    intro j hj
    rcases ins_mem.mp hj with q | rfl
    · exact h j q
    · exact fIdx_lt hp
def inclL (os : List Obj) (N : Nat) : List Int32 → List Nat → List Nat
  | [], ms => ms
  | id :: t, ms => inclL os N t (incl os N id ms).2
theorem ids_dropD {xs : List Int32} {i : Nat} (h : i < xs.length) : xs.drop i = xs.getD i 0 :: xs.drop (i + 1) := by
  rw [List.drop_eq_getElem_cons h, List.getD_eq_getElem?_getD, List.getElem?_eq_getElem h]
  rfl
section CLS6
variable {os : List Obj} {wn hv : List Int32}
theorem IdsIs.out {c l a N : Nat} {S S1 : vSt} {xs : List Int32} (h : IdsIs S l a N xs) (g : Out c S S1) (h1 : l < c ∨ c + 3 ≤ l) (h2 : a < c ∨ c + 3 ≤ a) : IdsIs S1 l a N xs := by
  obtain ⟨g1, g2, g3, g4, g5, g6⟩ := h
  have e1 := (g l (l + 1) (by omega) l (by omega) (by omega)).1 1
  have e2 := (g a (a + 1) (by omega) a (by omega) (by omega)).2
  exact ⟨g1, g2, by rw [e1, g3], by rw [e2, g4], by rw [e2, g5], g6⟩
theorem c_serve1 : ∀ k i ms S, i + k = wn.length → wn.length ≤ 16 → IdsIs S 132 133 16 wn → ShelfIs S 4 16 os → ClosIs S 136 24 ms → (∀ j ∈ ms, j < os.length) → ∃ S1, runv 11 21 [some (.ref 1), some (.int (nI i))] [] (hp S) = runv 11 58 [some (.ref 1), some (.int (nI wn.length))] [] (hp S1) ∧ ClosIs S1 136 24 (inclL os 24 (wn.drop i) ms) ∧ Out 136 S S1 := by
  intro k
  induction k with
  | zero =>
    intro i ms S hi h16 hI hS hC hms
    have t := idst (S := S) hI.1
    have hi : i = wn.length := by omega
    subst hi
    refine ⟨S, ?_, by rw [List.drop_of_length_le (Nat.le_refl _)]; exact hC, Out.rf⟩
    rw [s11_21]
    simp only [s11_22, s11_23, s11_26, s11_29, p5, List.length_cons, List.length_nil, Nat.reduceAdd, Nat.reduceLeDiff, Nat.zero_le, t, c_idsUsed hI, vbind_some, vpush_some]
    rw [if_pos (nI_le (Nat.le_refl _) (by omega))]
  | succ k ih =>
    intro i ms S hi h16 hI hS hC hms
    have hil : i < wn.length := by omega
    have t := fun S => idst (S := S) hI.1
    have tc := fun S => clt (S := S) hC.1
    obtain ⟨S1, g1, g2, g3⟩ := c_include (id := wn.getD i 0) (Or.inr (by omega)) (by omega) hS hC hms
    obtain ⟨S2, k1, k2, k3⟩ := ih (i + 1) _ S1 (by omega) h16 (hI.out g3 (by omega) (by omega)) (hS.agr (g3 _ _ (by omega))) g2 (incl_lt hms)
    refine ⟨S2, ?_, by rw [ids_dropD hil]; exact k2, g3.tr k3⟩
    rw [← k1, s11_21]
    simp only [s11_22, s11_23, s11_26, s11_29, s11_32, s11_33, s11_36, s11_37, s11_40, s11_41, s11_44, s11_45, s11_48, s11_51, r11_51, s11_52, s11_55, p5, p7, p1, List.length_cons, List.length_nil, Nat.reduceAdd, Nat.reduceLeDiff, Nat.zero_le, t, tc, c_idsUsed hI, c_idsGet hI hil, g1, vbind_some, vpush_some, nI_1]
    rw [if_neg (nI_ge (by omega) (by omega))]
theorem c_serve2 : ∀ k i ms S, i + k = hv.length → hv.length ≤ 8 → IdsIs S 134 135 8 hv → ShelfIs S 4 16 os → ClosIs S 139 16 ms → (∀ j ∈ ms, j < os.length) → ∃ S1, runv 11 67 [some (.ref 1), some (.int (nI i))] [] (hp S) = runv 11 104 [some (.ref 1), some (.int (nI hv.length))] [] (hp S1) ∧ ClosIs S1 139 16 (inclL os 16 (hv.drop i) ms) ∧ Out 139 S S1 := by
  intro k
  induction k with
  | zero =>
    intro i ms S hi h16 hI hS hC hms
    have t := idst (S := S) hI.1
    have hi : i = hv.length := by omega
    subst hi
    refine ⟨S, ?_, by rw [List.drop_of_length_le (Nat.le_refl _)]; exact hC, Out.rf⟩
    rw [s11_67]
    simp only [s11_68, s11_69, s11_72, s11_75, p6, List.length_cons, List.length_nil, Nat.reduceAdd, Nat.reduceLeDiff, Nat.zero_le, t, c_idsUsed hI, vbind_some, vpush_some]
    rw [if_pos (nI_le (Nat.le_refl _) (by omega))]
  | succ k ih =>
    intro i ms S hi h16 hI hS hC hms
    have hil : i < hv.length := by omega
    have t := fun S => idst (S := S) hI.1
    have tc := fun S => clt (S := S) hC.1
    obtain ⟨S1, g1, g2, g3⟩ := c_include (id := hv.getD i 0) (Or.inr (by omega)) (by omega) hS hC hms
    obtain ⟨S2, k1, k2, k3⟩ := ih (i + 1) _ S1 (by omega) h16 (hI.out g3 (by omega) (by omega)) (hS.agr (g3 _ _ (by omega))) g2 (incl_lt hms)
    refine ⟨S2, ?_, by rw [ids_dropD hil]; exact k2, g3.tr k3⟩
    rw [← k1, s11_67]
    simp only [s11_68, s11_69, s11_72, s11_75, s11_78, s11_79, s11_82, s11_83, s11_86, s11_87, s11_90, s11_91, s11_94, s11_97, r11_97, s11_98, s11_101, p6, p8, p1, List.length_cons, List.length_nil, Nat.reduceAdd, Nat.reduceLeDiff, Nat.zero_le, t, tc, c_idsUsed hI, c_idsGet hI hil, g1, vbind_some, vpush_some, nI_1]
    rw [if_neg (nI_ge (by omega) (by omega))]
end CLS6
