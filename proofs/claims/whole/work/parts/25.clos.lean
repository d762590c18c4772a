/-! closures -/
def isClos (c N : Nat) : Prop := sk[c]? = some (5, [some (c + 1), some (c + 2), none]) ∧ sk[c + 1]? = some (101, []) ∧ sk[c + 2]? = some (100, []) ∧ N ≤ 100
theorem isClos_r : isClos 136 24 := ⟨rfl, rfl, rfl, by omega⟩
theorem isClos_h : isClos 139 16 := ⟨rfl, rfl, rfl, by omega⟩
def ClosIs (S : vSt) (c N : Nat) (ms : List Nat) : Prop := isClos c N ∧ S.1 c 2 = nI ms.length ∧ (S.2 (c + 1)).length = N ∧ (S.2 (c + 2)).length = N ∧ (S.2 (c + 2)).take ms.length = ms.map nI ∧ (∀ j, j < N → (S.2 (c + 1)).getD j 0 = bI (decide (j ∈ ms))) ∧ ms.Nodup ∧ ∀ j ∈ ms, j < N
def ins (ms : List Nat) (j : Nat) : List Nat := if j ∈ ms then ms else ms ++ [j]
section CLOS0
variable {S : vSt} {c N : Nat} {K : Value → Option (Option Value × vH)} {K2 : vH → Option (Option Value × vH)}
theorem cl0 (h : isClos c N) : vgf (hp S) c 5 0 K = K (.ref (c + 1)) := vgf_ref h.1 rfl rfl
theorem cl1 (h : isClos c N) : vgf (hp S) c 5 1 K = K (.ref (c + 2)) := vgf_ref h.1 rfl rfl
theorem cl2 (h : isClos c N) : vgf (hp S) c 5 2 K = K (.int (S.1 c 2)) := vgf_int h.1 rfl rfl
theorem cl2p (h : isClos c N) {x : Int32} : vpf (hp S) c 5 2 (.int x) K2 = K2 (hp (fu S c 2 x)) := vpf_int h.1 rfl rfl (vfit_int rfl)
theorem clt (h : isClos c N) : vtag (hp S) c = 5 := vtag_hp h.1
theorem bal (a : Nat) (h : sk[a]? = some (101, [])) : vlen2 (hp S) a K = K (.int (nI (S.2 a).length)) := vlen2_int h rfl
theorem bag {a : Nat} (h : sk[a]? = some (101, [])) {i : Nat} (hi : i < (S.2 a).length) (hl : (S.2 a).length ≤ 10000) : vld2 (hp S) a (fun t => t == 101) (nI i) K = K (.int ((S.2 a).getD i 0)) := by
  rw [vld2_int h rfl rfl (nI_pos (by omega)) (by rw [nI_clamp (by omega)]; exact hi), nI_clamp (by omega)]
theorem bast {a : Nat} (h : sk[a]? = some (101, [])) {i : Nat} {x : Int32} (hi : i < (S.2 a).length) (hl : (S.2 a).length ≤ 10000) : vst2 (hp S) a 101 (nI i) (.int x) K2 = K2 (hp (au S a ((S.2 a).set i x))) := by
  rw [vst2_int h rfl (nI_pos (by omega)) (by rw [nI_clamp (by omega)]; exact hi), nI_clamp (by omega)]
end CLOS0
theorem nodup_len {N : Nat} {ms : List Nat} (h : ms.Nodup) (hl : ∀ j ∈ ms, j < N) : ms.length ≤ N := by
  have h1 : ms ⊆ List.range N := fun j hj => List.mem_range.mpr (hl j hj)
  have h2 := List.Nodup.length_le_of_subset h h1
  rwa [List.length_range] at h2
theorem c_found {S : vSt} {c N : Nat} {ms : List Nat} (h : ClosIs S c N ms) : callv 76 [.ref c] (hp S) = some (some (.int (nI ms.length)), hp S) := by
  show runv 76 0 [some (.ref c)] [] (hp S) = _
  simp only [s76_0, s76_1, s76_4, cl2 h.1, h.2.1]
theorem c_has {S : vSt} {c N j : Nat} {ms : List Nat} (h : ClosIs S c N ms) (hj : j < 1000) : callv 77 [.ref c, .int (nI j)] (hp S) = some (some (.int (bI (decide (j ∈ ms)))), hp S) := by
  obtain ⟨h1, h2, h3, h4, h5, h6, h7, h8⟩ := h
  have hN := h1.2.2.2
  show runv 77 0 [some (.ref c), some (.int (nI j))] [] (hp S) = _
  simp only [s77_0, s77_1, s77_4, s77_5, s77_6, s77_9, s77_10, s77_13, s77_14, s77_17, s77_18, s77_19, s77_22, s77_23, s77_26, s77_27, cl0 h1, bal _ h1.2.1, h3, vb0, vb1]
  rw [if_neg (nI_pos (by omega))]
  by_cases hjN : j < N
  · rw [if_neg (nI_ge hjN (by omega)), bag h1.2.1 (by omega) (by omega), h6 j hjN]
    simp only [s77_0, s77_1, s77_4, s77_5, s77_6, s77_9, s77_10, s77_13, s77_14, s77_17, s77_18, s77_19, s77_22, s77_23, s77_26, s77_27, if_bI, vb0, vb1]
    by_cases hm : j ∈ ms <;> simp [hm, bI]
  · rw [if_pos (nI_le (by omega) (by omega))]
    have hm : ¬ j ∈ ms := fun q => hjN (h8 j q)
    simp [hm, bI]
theorem c_cclear_loop {S : vSt} {c N : Nat} (h1 : isClos c N) (h3 : (S.2 (c + 1)).length = N) : ∀ k i, i + k = N → ∀ S1 : vSt, S1 = au S (c + 1) (List.replicate i 0 ++ (S.2 (c + 1)).drop i) → runv 78 2 [some (.ref c), some (.int (nI i))] [] (hp S1) = some (none, hp (fu (au S (c + 1) (List.replicate N 0)) c 2 0)) := by
  have hN := h1.2.2.2
  intro k
  induction k with
  | zero =>
    intro i hi S1 hS
    have hl : (S1.2 (c + 1)).length = N := by rw [hS, au_at]; simp; omega
    rw [s78_2]
    simp only [s78_0, s78_1, s78_3, s78_4, s78_7, s78_8, s78_11, s78_12, s78_15, s78_16, s78_17, s78_18, s78_21, s78_24, s78_25, s78_26, s78_29, cl0 h1, bal _ h1.2.1, hl, cl2p h1]
    rw [if_pos (nI_le (by omega) (by omega)), hS, show i = N by omega, List.drop_of_length_le (by omega), List.append_nil]
  | succ k ih =>
    intro i hi S1 hS
    have hl : (S1.2 (c + 1)).length = N := by rw [hS, au_at]; simp; omega
    rw [s78_2]
    simp only [s78_0, s78_1, s78_3, s78_4, s78_7, s78_8, s78_11, s78_12, s78_15, s78_16, s78_17, s78_18, s78_21, s78_24, s78_25, s78_26, s78_29, cl0 h1, bal _ h1.2.1, hl, vb0]
    rw [if_neg (nI_ge (by omega) (by omega)), bast h1.2.1 (by omega) (by omega)]
    simp only [s78_0, s78_1, s78_3, s78_4, s78_7, s78_8, s78_11, s78_12, s78_15, s78_16, s78_17, s78_18, s78_21, s78_24, s78_25, s78_26, s78_29, nI_1]
    refine ih (i + 1) (by omega) _ ?_
    rw [hS]
    have e : (List.replicate i (0 : Int32) ++ (S.2 (c + 1)).drop i).set i 0 = List.replicate (i + 1) 0 ++ (S.2 (c + 1)).drop (i + 1) := by
      rw [set_app (m := List.replicate i 0) (by rw [List.take_left' (by simp)]) (by simp; omega), List.replicate_succ']
      congr 1
      rw [List.drop_append, List.drop_of_length_le (by simp), List.nil_append, List.drop_drop]
      congr 1
      simp
    rw [au_at, e]
    refine Prod.ext rfl (funext fun b => ?_)
    by_cases hb : b = c + 1
    · subst hb; rw [au_at, au_at]
    · rw [au_a _ _ hb, au_a _ _ hb, au_a _ _ hb]
theorem c_cclear {S : vSt} {c N : Nat} (h1 : isClos c N) (h3 : (S.2 (c + 1)).length = N) : callv 78 [.ref c] (hp S) = some (none, hp (fu (au S (c + 1) (List.replicate N 0)) c 2 0)) := by
  show runv 78 0 [some (.ref c), none] [] (hp S) = _
  simp only [s78_0, s78_1]
  rw [show (0 : Int32) = nI 0 from rfl]
  exact c_cclear_loop h1 h3 N 0 (by omega) S (by simp; rw [au_self rfl])
theorem ClosIs.nil {S : vSt} {c N : Nat} (h1 : isClos c N) (h3 : (S.2 (c + 1)).length = N) (h4 : (S.2 (c + 2)).length = N) : ClosIs (fu (au S (c + 1) (List.replicate N 0)) c 2 0) c N [] := by
  refine ⟨h1, by rw [fu_at]; rfl, by rw [fu_2, au_at]; simp, by rw [fu_2, au_a _ _ (by omega)]; exact h4, rfl, fun j hj => ?_, List.nodup_nil, fun j hj => by cases hj⟩
  rw [fu_2, au_at, List.getD_eq_getElem?_getD, List.getElem?_replicate, if_pos hj]
  rfl
def closPut (S : vSt) (c : Nat) (ms : List Nat) (j : Nat) : vSt := if j ∈ ms then S else fu (au (au S (c + 1) ((S.2 (c + 1)).set j 1)) (c + 2) ((S.2 (c + 2)).set ms.length (nI j))) c 2 (nI (ms.length + 1))
theorem c_mark {S : vSt} {c N j : Nat} {ms : List Nat} (h : ClosIs S c N ms) (hj : j < N) : callv 81 [.ref c, .int (nI j)] (hp S) = some (none, hp (closPut S c ms j)) := by
  obtain ⟨h1, h2, h3, h4, h5, h6, h7, h8⟩ := h
  have hN := h1.2.2.2
  have hlen : ¬ j ∈ ms → ms.length < N := fun hm => by
    have : (j :: ms).length ≤ N := nodup_len (List.nodup_cons.mpr ⟨hm, h7⟩) (by intro x hx; rcases List.mem_cons.mp hx with rfl | q; exact hj; exact h8 x q)
    simp only [List.length_cons] at this; omega
  show runv 81 0 [some (.ref c), some (.int (nI j))] [] (hp S) = _
  simp only [s81_0, s81_1, s81_2, s81_5, s81_6, s81_9, s81_10, s81_13, s81_14, s81_15, s81_18, s81_19, s81_22, s81_23, s81_24, s81_25, s81_26, s81_29, s81_30, s81_33, s81_34, s81_35, s81_36, r81_36, s81_37, s81_40, s81_41, s81_42, s81_45, cl0 h1, cl1 h1, cl2 h1, bal _ h1.2.1, h3, h2, vb1]
  rw [if_neg (nI_ge hj (by omega)), bag h1.2.1 (by omega) (by omega), h6 j hj]
  simp only [s81_0, s81_1, s81_2, s81_5, s81_6, s81_9, s81_10, s81_13, s81_14, s81_15, s81_18, s81_19, s81_22, s81_23, s81_24, s81_25, s81_26, s81_29, s81_30, s81_33, s81_34, s81_35, s81_36, r81_36, s81_37, s81_40, s81_41, s81_42, s81_45, cl0 h1, cl1 h1, cl2 h1, if_bI, vb1]
  unfold closPut
  by_cases hm : j ∈ ms
  · simp [hm, bI]
  · rw [if_neg hm, decide_eq_false hm]
    rw [if_neg (by decide), bast h1.2.1 (by omega) (by omega)]
    have hl := hlen hm
    simp only [s81_0, s81_1, s81_2, s81_5, s81_6, s81_9, s81_10, s81_13, s81_14, s81_15, s81_18, s81_19, s81_22, s81_23, s81_24, s81_25, s81_26, s81_29, s81_30, s81_33, s81_34, s81_35, s81_36, r81_36, s81_37, s81_40, s81_41, s81_42, s81_45, cl0 h1, cl1 h1, cl2 h1, au_1, h2]
    rw [arst h1.2.2.1 (by rw [au_a _ _ (by omega)]; omega) (by rw [au_a _ _ (by omega)]; omega)]
    simp only [s81_0, s81_1, s81_2, s81_5, s81_6, s81_9, s81_10, s81_13, s81_14, s81_15, s81_18, s81_19, s81_22, s81_23, s81_24, s81_25, s81_26, s81_29, s81_30, s81_33, s81_34, s81_35, s81_36, r81_36, s81_37, s81_40, s81_41, s81_42, s81_45, cl2 h1, au_1, h2, nI_1, cl2p h1]
    rw [au_a _ _ (show c + 2 ≠ c + 1 by omega)]
theorem ClosIs.put {S : vSt} {c N j : Nat} {ms : List Nat} (h : ClosIs S c N ms) (hj : j < N) : ClosIs (closPut S c ms j) c N (ins ms j) := by
  have h0 := h
  obtain ⟨h1, h2, h3, h4, h5, h6, h7, h8⟩ := h
  unfold closPut ins
  by_cases hm : j ∈ ms
  · rw [if_pos hm, if_pos hm]; exact h0
  · rw [if_neg hm, if_neg hm]
    have hlen : ms.length < N := by
      have : (j :: ms).length ≤ N := nodup_len (List.nodup_cons.mpr ⟨hm, h7⟩) (by intro x hx; rcases List.mem_cons.mp hx with rfl | q; exact hj; exact h8 x q)
      simp only [List.length_cons] at this; omega
    refine ⟨h1, by rw [fu_at]; simp, ?_, ?_, ?_, ?_, ?_, ?_⟩
    · rw [fu_2, au_a _ _ (by omega), au_at, List.length_set, h3]
    · rw [fu_2, au_at, List.length_set, h4]
    · rw [fu_2, au_at, set_app h5 (by omega), List.take_left' (by simp), List.map_append]
      rfl
    · intro q hq
      rw [fu_2, au_a _ _ (by omega), au_at, List.getD_eq_getElem?_getD]
      by_cases hqj : j = q
      · subst hqj
        rw [List.getElem?_set_self (by omega)]
        simp [bI]
      · rw [List.getElem?_set_ne hqj, ← List.getD_eq_getElem?_getD, h6 q hq]
        have : (q ∈ ms ++ [j]) = (q ∈ ms) := by
          rw [List.mem_append, List.mem_singleton]
          exact propext ⟨fun z => z.resolve_right (fun e => hqj e.symm), Or.inl⟩
        simp only [this]
    · rw [List.nodup_append]
      refine ⟨h7, by simp, ?_⟩
      intro x hx y hy e
      rw [List.mem_singleton] at hy
      subst hy
      subst e
      exact hm hx
    · intro x hx
      rcases List.mem_append.mp hx with q | q
      · exact h8 x q
      · rw [List.mem_singleton.mp q]; exact hj
theorem closPut_agr {S : vSt} {c j lo hi : Nat} {ms : List Nat} (h : c + 3 ≤ lo ∨ hi ≤ c) : Agr S (closPut S c ms j) lo hi := by
  unfold closPut
  split
  · exact Agr.rf
  · exact ((Agr.au (by omega)).tr (Agr.au (by omega))).tr (Agr.fu (by omega))
