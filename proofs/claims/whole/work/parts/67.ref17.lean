/-! the reference: rows of numbers; choose; hashTo -/
def SqIs (S : vSt) (k a N : Nat) (bs : List Nat) : Prop := S.1 249 k = nI bs.length ∧ (S.2 a).length = N ∧ (S.2 a).take bs.length = bs.map nI ∧ bs.length ≤ N
def sqSet (S : vSt) (k a : Nat) (bs : List Nat) : vSt := au (fu S 249 k (nI bs.length)) a (bs.map nI ++ (S.2 a).drop bs.length)
section SEQ
variable {S : vSt} {k a N i : Nat} {bs cs : List Nat}
theorem SqIs.get (h : SqIs S k a N bs) (hi : i < bs.length) : (S.2 a).getD i 0 = nI (bs.getD i 0) := by
  have e : ((S.2 a).take bs.length)[i]? = (bs.map nI)[i]? := by rw [h.2.2.1]
  rw [List.getElem?_take_of_lt hi, List.getElem?_map, List.getElem?_eq_getElem hi] at e
  rw [List.getD_eq_getElem?_getD, e, List.getD_eq_getElem?_getD, List.getElem?_eq_getElem hi]
  rfl
theorem SqIs.set (h : SqIs S k a N bs) (hc : cs.length ≤ N) : SqIs (sqSet S k a cs) k a N cs := by
  refine ⟨by rw [sqSet, au_1, fu_at], ?_, ?_, hc⟩
  · simp only [sqSet, au_at]
    rw [List.length_append, List.length_map, List.length_drop, h.2.1]
    omega
  · simp only [sqSet, au_at]
    rw [List.take_left' (by simp)]
theorem SqIs.self (h : SqIs S k a N bs) : sqSet S k a bs = S := by
  have e2 : bs.map nI ++ (S.2 a).drop bs.length = S.2 a := by rw [← h.2.2.1, List.take_append_drop]
  refine Prod.ext ?_ ?_
  · funext b j
    rw [sqSet, au_1]
    by_cases hb : b = 249
    · by_cases hj : j = k
      · subst hb; subst hj; rw [fu_at, h.1]
      · rw [fu_k _ _ hj]
    · rw [fu_a _ _ hb]
  · funext b
    by_cases hb : b = a
    · subst hb
      simp only [sqSet, au_at]
      exact e2
    · rw [sqSet, au_a _ _ hb, fu_2]
theorem sq_push {x : Nat} (h : SqIs S k a N bs) (hl : bs.length < N) : fu (au S a ((S.2 a).set bs.length (nI x))) 249 k (nI (bs.length + 1)) = sqSet S k a (bs ++ [x]) := by
  have e := set_app (l := S.2 a) (m := bs.map nI) (n := bs.length) (v := nI x) h.2.2.1 (by rw [h.2.1]; omega)
  rw [sqSet, e, List.length_append, List.length_singleton, List.map_append]
  rfl
theorem sq_grow (h : bs.length ≤ cs.length) : sqSet (sqSet S k a bs) k a cs = sqSet S k a cs := by
  refine Prod.ext ?_ ?_
  · funext b j
    simp only [sqSet, au_1]
    by_cases hb : b = 249
    · by_cases hj : j = k
      · subst hb; subst hj; rw [fu_at, fu_at]
      · rw [fu_k _ _ hj, fu_k _ _ hj, au_1, fu_k _ _ hj]
    · rw [fu_a _ _ hb, fu_a _ _ hb, au_1, fu_a _ _ hb]
  · funext b
    by_cases hb : b = a
    · subst hb
      simp only [sqSet, au_at, fu_2]
      congr 1
      rw [List.drop_append, List.drop_of_length_le (by rw [List.length_map]; exact h), List.nil_append, List.drop_drop, List.length_map, show bs.length + (cs.length - bs.length) = cs.length by omega]
    · simp only [sqSet, fu_2]
      rw [au_a _ _ hb, au_a _ _ hb, fu_2, au_a _ _ hb, fu_2]
      rfl
theorem sq_2 {b : Nat} (h : b ≠ a) : (sqSet S k a bs).2 b = S.2 b := by rw [sqSet, au_a _ _ h, fu_2]
theorem sq_1 {b j : Nat} (h : ¬ (b = 249 ∧ j = k)) : (sqSet S k a bs).1 b j = S.1 b j := by
  rw [sqSet, au_1]
  by_cases hb : b = 249
  · exact fu_k _ _ (fun z => h ⟨hb, z⟩)
  · exact fu_a _ _ hb
theorem sq_len (hl : bs.length ≤ (S.2 a).length) (b : Nat) : ((sqSet S k a bs).2 b).length = (S.2 b).length := by
  by_cases q : b = a
  · subst q
    simp only [sqSet, au_at]
    rw [List.length_append, List.length_map, List.length_drop]
    omega
  · rw [sq_2 q]
theorem RLen.of {S S1 : vSt} (h : RLen S) (n : ∀ b, (S1.2 b).length = (S.2 b).length) : RLen S1 := by
  obtain ⟨g0, g1, g2, g3, g4, g5, g6, g7, g8, g9, g10, g11, g12, g13, g14, g15, g16⟩ := h
  exact ⟨by rw [n, g0], by rw [n, g1], by rw [n, g2], by rw [n, g3], by rw [n, g4], by rw [n, g5], by rw [n, g6], by rw [n, g7], by rw [n, g8], by rw [n, g9], by rw [n, g10], by rw [n, g11], by rw [n, g12], by rw [n, g13], by rw [n, g14], by rw [n, g15], by rw [n, g16]⟩
theorem sq_side {s : Nat} {l : List Obj} (h : SideIs S s l) (ha : a ≠ 251 ∧ a ≠ 252 ∧ a ≠ 253 ∧ a ≠ 254) : SideIs (sqSet S k a bs) s l := h.of (sq_2 (fun z => ha.1 z.symm)) (sq_2 (fun z => ha.2.1 z.symm)) (sq_2 (fun z => ha.2.2.1 z.symm)) (sq_2 (fun z => ha.2.2.2 z.symm))
theorem SqIs.other {k2 a2 N2 : Nat} {ds : List Nat} (h : SqIs S k a N bs) (h1 : k ≠ k2) (h2 : a ≠ a2) : SqIs (sqSet S k2 a2 ds) k a N bs := ⟨by rw [sq_1 (fun z => h1 z.2)]; exact h.1, by rw [sq_2 h2]; exact h.2.1, by rw [sq_2 h2]; exact h.2.2.1, h.2.2.2⟩
end SEQ
section REF17
variable {os : List Obj} {ws hs : List Nat}
theorem SideIs.at {S : vSt} (h : SideIs S 0 os) {i : Nat} (hi : i < os.length) : SltIs S i (oAt os i) := by
  have e : oAt os i = os[i] := by unfold oAt; rw [List.getD_eq_getElem?_getD, List.getElem?_eq_getElem hi]; rfl
  have := h.2.2.2 i _ (List.getElem?_eq_getElem hi)
  rw [show st0 0 + i = i by unfold st0; simp] at this
  rw [e]
  exact this
theorem c_choose_in {f : Nat → Bool} (hf : ∀ p, p < os.length → (f p = true ↔ p ∈ ws ∧ ¬ p ∈ hs)) {kd : Nat} (hkd : kd ≤ 3) : ∀ n k pk S, k + n = os.length → RLen S → SideIs S 0 os → MkIs S f → SqIs S 13 259 16 pk → pk.length + (pkF os ws hs kd n k).length ≤ 16 → runv 52 14 [some (.ref 249), some (.int (nI kd)), some (.int (nI k))] [] (hp S) = runv 52 69 [some (.ref 249), some (.int (nI kd)), some (.int (nI os.length))] [] (hp (sqSet S 13 259 (pk ++ pkF os ws hs kd n k))) := by
  intro n
  induction n with
  | zero =>
    intro k pk S hk hL hS hM hP hl
    have hc := hS.2.2.1
    have hc0 : cap0 0 = 16 := rfl
    have : k = os.length := by omega
    subst this
    have g := fun (K : Value → Option (Option Value × vH)) => g251 (K := K) hL (show 0 < 2 by omega)
    have e0 : (nI 0 : Int32) = 0 := rfl
    rw [e0] at g
    rw [s52_14]
    simp only [s52_15, s52_16, s52_19, s52_20, s52_21, q2, g, hS.2.1]
    rw [if_pos (nI_le (Nat.le_refl _) (by omega))]
    show _ = runv 52 69 _ [] (hp (sqSet S 13 259 (pk ++ [])))
    rw [List.append_nil, hP.self]
  | succ n ih =>
    intro k pk S hk hL hS hM hP hl
    have hc := hS.2.2.1
    have hc0 : cap0 0 = 16 := rfl
    have hkl : k < os.length := by omega
    have hsl := hS.at hkl
    have g := fun (K : Value → Option (Option Value × vH)) => g251 (K := K) hL (show 0 < 2 by omega)
    have e0 : (nI 0 : Int32) = 0 := rfl
    rw [e0] at g
    have nx : ∀ S1, runv 52 63 [some (.ref 249), some (.int (nI kd)), some (.int (nI k))] [] (hp S1) = runv 52 14 [some (.ref 249), some (.int (nI kd)), some (.int (nI (k + 1)))] [] (hp S1) := fun S1 => by
      simp only [s52_63, s52_66, nI_1]
    have kk : (nI (oAt os k).1 = nI kd) = ((oAt os k).1 = kd) := nI_inj (by have := hsl.2.2.2.2.2.2.2; omega) (by omega)
    have st : runv 52 14 [some (.ref 249), some (.int (nI kd)), some (.int (nI k))] [] (hp S) = if f k = true then (if (oAt os k).1 = kd then runv 52 43 [some (.ref 249), some (.int (nI kd)), some (.int (nI k))] [] (hp S) else runv 52 63 [some (.ref 249), some (.int (nI kd)), some (.int (nI k))] [] (hp S)) else runv 52 63 [some (.ref 249), some (.int (nI kd)), some (.int (nI k))] [] (hp S) := by
      rw [s52_14]
      simp only [s52_15, s52_16, s52_19, s52_20, s52_21, s52_24, s52_25, s52_28, s52_29, s52_30, s52_33, s52_34, s52_37, s52_38, s52_39, s52_40, q2, q3, q6, g, hS.2.1, gb rfl hM.1 (show k < 40 by omega) (by omega), hM.2 k (by omega), if_bI, g252 hL hsl.1, hsl.2.1, kk]
      rw [if_neg (nI_ge (by omega) (by omega))]
    rw [st]
    unfold pkF at hl ⊢
    by_cases c : k ∈ ws ∧ ¬ k ∈ hs ∧ (oAt os k).1 = kd
    · rw [if_pos c] at hl ⊢
      rw [if_pos ((hf k hkl).mpr ⟨c.1, c.2.1⟩), if_pos c.2.2]
      rw [List.length_cons] at hl
      have e1 : ∀ l, (au S 259 l).1 249 13 = nI pk.length := fun l => hP.1
      have hP2 := hP.set (cs := pk ++ [k]) (by rw [List.length_append, List.length_singleton]; omega)
      have e2 := ih (k + 1) (pk ++ [k]) _ (by omega) (hL.of (sq_len (by rw [hP.2.1, List.length_append, List.length_singleton]; omega))) (sq_side hS (by omega)) (⟨by rw [sq_2 (by omega)]; exact hM.1, fun j hj => by rw [sq_2 (by omega)]; exact hM.2 j hj⟩) hP2 (by rw [List.length_append, List.length_singleton]; omega)
      rw [sq_grow (by simp), List.append_assoc, List.singleton_append] at e2
      rw [← e2, ← nx]
      simp only [s52_43, s52_44, s52_47, s52_48, s52_51, s52_52, s52_53, s52_54, s52_55, s52_58, s52_59, s52_60, q13, q14, hP.1, gs (x := nI k) rfl hP.2.1 (show pk.length < 16 by omega) (by omega), e1, q13p, nI_1, sq_push hP (show pk.length < 16 by omega)]
    · rw [if_neg c] at hl ⊢
      have e2 := ih (k + 1) pk S (by omega) hL hS hM hP hl
      rw [← e2, ← nx]
      by_cases c1 : f k = true
      · rw [if_pos c1, if_neg (fun z => c ⟨((hf k hkl).mp c1).1, ((hf k hkl).mp c1).2, z⟩)]
      · rw [if_neg c1]
theorem c_choose {S : vSt} {f : Nat → Bool} (hf : ∀ p, p < os.length → (f p = true ↔ p ∈ ws ∧ ¬ p ∈ hs)) (hL : RLen S) (hS : SideIs S 0 os) (hM : MkIs S f) : ∃ S1, callv 52 [.ref 249] (hp S) = some (none, hp S1) ∧ SqIs S1 13 259 16 (pkAll os ws hs) ∧ S1 = sqSet (fu S 249 13 (nI 0)) 13 259 (pkAll os ws hs) := by
  have hc := hS.2.2.1
  have hc0 : cap0 0 = 16 := rfl
  have hall := pkAll_ok os ws hs
  have hlen : (pkAll os ws hs).length ≤ 16 := Nat.le_trans (nodup_len hall.1 hall.2) (by omega)
  have hsum : (pkAll os ws hs).length = (pkF os ws hs 1 os.length 0).length + (pkF os ws hs 2 os.length 0).length + (pkF os ws hs 3 os.length 0).length := by unfold pkAll; rw [List.length_append, List.length_append]
  have l0 : ((fu S 249 13 (nI 0)).2 259).length = 16 := by rw [fu_2]; exact hL.2.2.2.2.2.2.2.2.2.1
  have P0 : SqIs (fu S 249 13 (nI 0)) 13 259 16 [] := ⟨fu_at _ _ _ _, l0, rfl, by simp⟩
  have L0 : RLen (fu S 249 13 (nI 0)) := hL
  have S0 : SideIs (fu S 249 13 (nI 0)) 0 os := hS
  have M0 : MkIs (fu S 249 13 (nI 0)) f := hM
  have key : ∀ pk, pk.length ≤ 16 → RLen (sqSet (fu S 249 13 (nI 0)) 13 259 pk) ∧ SideIs (sqSet (fu S 249 13 (nI 0)) 13 259 pk) 0 os ∧ MkIs (sqSet (fu S 249 13 (nI 0)) 13 259 pk) f ∧ SqIs (sqSet (fu S 249 13 (nI 0)) 13 259 pk) 13 259 16 pk := fun pk hp1 => ⟨L0.of (sq_len (by omega)), sq_side S0 (by omega), ⟨by rw [sq_2 (by omega)]; exact M0.1, fun j hj => by rw [sq_2 (by omega)]; exact M0.2 j hj⟩, P0.set hp1⟩
  have r1 := c_choose_in hf (kd := 1) (by omega) os.length 0 [] _ (by omega) L0 S0 M0 P0 (by simp only [List.length_nil]; omega)
  rw [List.nil_append] at r1
  obtain ⟨L1, S1, M1, P1⟩ := key (pkF os ws hs 1 os.length 0) (by omega)
  have r2 := c_choose_in hf (kd := 2) (by omega) os.length 0 _ _ (by omega) L1 S1 M1 P1 (by omega)
  rw [sq_grow (by simp)] at r2
  obtain ⟨L2, S2, M2, P2⟩ := key (pkF os ws hs 1 os.length 0 ++ pkF os ws hs 2 os.length 0) (by rw [List.length_append]; omega)
  have r3 := c_choose_in hf (kd := 3) (by omega) os.length 0 _ _ (by omega) L2 S2 M2 P2 (by rw [List.length_append]; omega)
  rw [sq_grow (by simp)] at r3
  refine ⟨_, ?_, P0.set hlen, rfl⟩
  have e13 : ∀ (K2 : vH → Option (Option Value × vH)), vpf (hp S) 249 9 13 (.int 0) K2 = K2 (hp (fu S 249 13 (nI 0))) := fun K2 => q13p
  have e0 : (nI 0 : Int32) = 0 := rfl
  have e1 : (nI 1 : Int32) = 1 := rfl
  rw [e1, e0] at r1
  rw [e0] at r2 r3
  show runv 52 0 [some (.ref 249), none, none] [] (hp S) = _
  simp only [s52_0, s52_1, s52_2, s52_5, s52_6, e13, e0]
  rw [s52_7]
  simp only [s52_8, s52_9, s52_12, s52_13]
  rw [if_neg (by decide), r1]
  simp only [s52_69, s52_72]
  rw [show (1 : Int32) + 1 = nI 2 by decide, s52_7]
  simp only [s52_8, s52_9, s52_12, s52_13]
  rw [if_neg (by decide), r2]
  simp only [s52_69, s52_72]
  rw [show nI 2 + 1 = nI 3 by decide, s52_7]
  simp only [s52_8, s52_9, s52_12, s52_13]
  rw [if_neg (by decide), r3]
  simp only [s52_69, s52_72]
  rw [show nI 3 + 1 = nI 4 by decide, s52_7]
  simp only [s52_8, s52_9, s52_75]
  rw [if_pos (by decide)]
  rfl
end REF17
