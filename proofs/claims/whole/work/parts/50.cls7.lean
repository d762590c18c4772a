/-! the class: serve, the whole of it -/
theorem packOut_b {os : List Obj} {pk : List Nat} (hos : OsOk os) (h16 : pk.length ≤ 16) : ∀ x ∈ packOut os pk, x < 256 := by
  have hb0 : ∀ x ∈ [80, 1, pk.length], x < 256 := by
    intro x hx
    simp only [List.mem_cons, List.not_mem_nil, or_false] at hx
    omega
  have hob := wrF_ok hos pk pk.length [] [80, 1, pk.length] hb0 (by simp; omega)
  have hh := hashN_lt (h := 7) (packOb os pk) (by omega)
  intro x hx
  unfold packOut at hx
  rcases List.mem_append.mp hx with q | q
  · exact hob.1 x q
  · simp only [List.mem_cons, List.not_mem_nil, or_false] at q
    omega
/-- what serve picks -/
def srvP (os : List Obj) (wn hv : List Int32) : List Nat := pkAll os (inclL os 24 wn []) (inclL os 16 hv [])
def srvB (os : List Obj) (pk : List Nat) : List Nat := if pk.length = 0 then [] else packOut os pk
section CLS7
variable {S : vSt} {bs : List Nat} {os cs : List Obj} {rf wn hv : List Int32}
theorem m_serve0 (h : ClsIs S (bs, os, cs, rf, [], hv)) : Meth S 11 [] (-1) (bs, os, cs, rf, [], hv) := by
  have hI : IdsIs S 132 133 16 [] := h.2.2.2.2.2.2.1
  have t := idst (S := S) hI.1
  refine ⟨S, ?_, h, Agr.rf⟩
  show runv 11 0 [some (.ref 1), none] [] (hp S) = _
  simp only [s11_0, s11_1, s11_4, s11_7, s11_10, s11_11, p5, List.length_cons, List.length_nil, Nat.reduceAdd, Nat.reduceLeDiff, Nat.zero_le, t, c_idsUsed hI, vbind_some, vpush_some]
  rw [if_pos (show nI 0 = 0 from rfl)]
theorem m_serve (h : ClsIs S (bs, os, cs, rf, wn, hv)) (hw : wn ≠ []) : Meth S 11 [] (nI (srvP os wn hv).length) (srvB os (srvP os wn hv), os, cs, rf, [], []) := by
  obtain ⟨h1, h2, h3, h4, h5, h6, h7, h8, h9⟩ := h
  simp only at h1 h2 h3 h4 h5 h6 h7 h8
  have hwl : 0 < wn.length := List.length_pos_iff.mpr hw
  have w16 : wn.length ≤ 16 := h7.2.2.2.2.2.1
  have v8 : hv.length ≤ 8 := h8.2.2.2.2.2.1
  have t5 := fun S => idst (S := S) h7.1
  have t6 := fun S => idst (S := S) h8.1
  have tr := fun S => clt (S := S) isClos_r
  have th := fun S => clt (S := S) isClos_h
  have tw := fun S => wt (S := S)
  have e1 := c_cclear (S := S) isClos_r h9.2.1
  have hC0 := ClosIs.nil (S := S) isClos_r h9.2.1 h9.2.2.1
  have L1 : Out 136 S (fu (au S (136 + 1) (List.replicate 24 0)) 136 2 0) := fun lo hi q => (Agr.au (by omega)).tr (Agr.fu (by omega))
  generalize fu (au S (136 + 1) (List.replicate 24 0)) 136 2 0 = A1 at *
  obtain ⟨S1, a1, a2, a3⟩ := c_serve1 (os := os) (wn := wn) wn.length 0 [] A1 (by omega) w16 (h7.out L1 (by omega) (by omega)) (h3.agr (L1 _ _ (by omega))) hC0 (by simp)
  rw [List.drop_zero] at a2
  have O1 : Out 136 S S1 := L1.tr a3
  have l140 : (S1.2 (139 + 1)).length = 16 := by rw [(O1 139 142 (by omega) 140 (by omega) (by omega)).2]; exact h9.2.2.2.1
  have l141 : (S1.2 (139 + 2)).length = 16 := by rw [(O1 139 142 (by omega) 141 (by omega) (by omega)).2]; exact h9.2.2.2.2.1
  have e2 := c_cclear (S := S1) isClos_h l140
  have hC1 := ClosIs.nil (S := S1) isClos_h l140 l141
  have L2 : Out 139 S1 (fu (au S1 (139 + 1) (List.replicate 16 0)) 139 2 0) := fun lo hi q => (Agr.au (by omega)).tr (Agr.fu (by omega))
  generalize fu (au S1 (139 + 1) (List.replicate 16 0)) 139 2 0 = A2 at *
  have h3a : ShelfIs A2 4 16 os := (h3.agr (O1 _ _ (by omega))).agr (L2 _ _ (by omega))
  obtain ⟨S2, b1, b2, b3⟩ := c_serve2 (os := os) (hv := hv) hv.length 0 [] A2 (by omega) v8 ((h8.out O1 (by omega) (by omega)).out L2 (by omega) (by omega)) h3a hC1 (by simp)
  rw [List.drop_zero] at b2
  have O2 : Out 139 S1 S2 := L2.tr b3
  have ag2 : ∀ lo hi, (hi ≤ 136 ∨ 142 ≤ lo) → Agr S S2 lo hi := fun lo hi q => (O1 lo hi (by omega)).tr (O2 lo hi (by omega))
  have i7 : IdsIs S2 132 133 16 wn := (h7.out O1 (by omega) (by omega)).out O2 (by omega) (by omega)
  have i8 : IdsIs S2 134 135 8 hv := (h8.out O1 (by omega) (by omega)).out O2 (by omega) (by omega)
  have e3 := c_idsClear i7
  have F3 : Fr S2 (idsSet S2 132 133 []) (fun b _ => b = 132) (fun b => b = 133) := Fr.ids rfl rfl
  have i7' : IdsIs (idsSet S2 132 133 []) 132 133 16 [] := i7.set (by simp)
  have i8' : IdsIs (idsSet S2 132 133 []) 134 135 8 hv := i8.fr F3 (by omega) (by omega)
  generalize idsSet S2 132 133 [] = S3 at *
  have e4 := c_idsClear i8'
  have F4 : Fr S3 (idsSet S3 134 135 []) (fun b _ => b = 134) (fun b => b = 135) := Fr.ids rfl rfl
  have i7b : IdsIs (idsSet S3 134 135 []) 132 133 16 [] := i7'.fr F4 (by omega) (by omega)
  have i8b : IdsIs (idsSet S3 134 135 []) 134 135 8 [] := i8'.set (by simp)
  generalize idsSet S3 134 135 [] = S4 at *
  have ag4 : ∀ b, b < 132 ∨ 136 ≤ b → (∀ j, S4.1 b j = S2.1 b j) ∧ S4.2 b = S2.2 b := fun b hb => ⟨fun j => (F4.1 b j (by omega)).trans (F3.1 b j (by omega)), (F4.2 b (by omega)).trans (F3.2 b (by omega))⟩
  have agS4 : ∀ b, b < 132 ∨ (142 ≤ b ∧ b < 1000) → (∀ j, S4.1 b j = S.1 b j) ∧ S4.2 b = S.2 b := by
    intro b hb
    have w1 := ag4 b (by omega)
    have w2 : (∀ j, S2.1 b j = S.1 b j) ∧ S2.2 b = S.2 b := by
      rcases hb with q | ⟨q1, q2⟩
      · exact ag2 0 132 (by omega) b (by omega) q
      · exact ag2 142 1000 (by omega) b q1 q2
    exact ⟨fun j => (w1.1 j).trans (w2.1 j), w1.2.trans w2.2⟩
  have h3d : ShelfIs S4 4 16 os := h3.agr (fun b q1 q2 => agS4 b (by omega))
  have cw : ClosIs S4 136 24 (inclL os 24 wn []) := by
    have a2' : ClosIs S2 136 24 (inclL os 24 wn []) := ClosIs.agr a2 (O2 136 139 (by omega))
    exact ClosIs.agr a2' (fun b q1 q2 => ag4 b (by omega))
  have ch : ClosIs S4 139 16 (inclL os 16 hv []) := ClosIs.agr b2 (fun b q1 q2 => ag4 b (by omega))
  have wl : WLen S4 := by
    obtain ⟨g1, g2, g3, g4, g5⟩ := h9.2.2.2.2.2.1
    exact ⟨by rw [(agS4 143 (by omega)).2, g1], by rw [(agS4 144 (by omega)).2, g2], by rw [(agS4 146 (by omega)).2, g3], by rw [(agS4 148 (by omega)).2, g4], by rw [(agS4 150 (by omega)).2, g5]⟩
  obtain ⟨S5, c1, c2, c3, c4⟩ := c_write h3d cw ch (by rw [(agS4 3 (by omega)).2]; exact h1.2.2.1) wl
  have c1' : callv 132 [.ref 142, .ref 136, .ref 139] (hp S4) = some (some (.int (nI (srvP os wn hv).length)), hp S5) := c1
  have c2' : RowIs S5 2 3 500 (srvB os (srvP os wn hv)) := c2
  have go : callv 11 [.ref 1] (hp S) = some (some (.int (nI (srvP os wn hv).length)), hp S5) := by
    have g0 : callv 11 [.ref 1] (hp S) = runv 11 21 [some (.ref 1), some (.int (nI 0))] [] (hp A1) := by
      show runv 11 0 [some (.ref 1), none] [] (hp S) = _
      simp only [s11_0, s11_1, s11_4, s11_7, s11_10, s11_11, s11_12, s11_13, s11_16, s11_19, s11_20, p5, p7, List.length_cons, List.length_nil, Nat.reduceAdd, Nat.reduceLeDiff, Nat.zero_le, t5, tr, c_idsUsed h7, e1, vbind_some, vpush_some, vpush_none]
      rw [if_neg (show ¬ nI wn.length = 0 from fun z => by rw [show (nI wn.length = 0) = (wn.length = 0) from nI_inj (b := 0) (by omega) (by omega)] at z; omega)]
      rfl
    have g1 : runv 11 58 [some (.ref 1), some (.int (nI wn.length))] [] (hp S1) = runv 11 67 [some (.ref 1), some (.int (nI 0))] [] (hp A2) := by
      simp only [s11_58, s11_59, s11_62, s11_65, s11_66, p8, List.length_cons, List.length_nil, Nat.reduceAdd, Nat.reduceLeDiff, Nat.zero_le, th, e2, vbind_some, vpush_none]
      rfl
    rw [g0, a1, g1, b1]
    simp only [s11_104, s11_105, s11_108, s11_111, s11_112, s11_115, s11_118, s11_119, s11_122, s11_123, s11_126, s11_127, s11_130, s11_133, p5, p6, p7, p8, p9, List.length_cons, List.length_nil, Nat.reduceAdd, Nat.reduceLeDiff, Nat.zero_le, t5, t6, tw, e3, e4, c1', vbind_some, vpush_some, vpush_none]
  have agS5 : ∀ b, (4 ≤ b ∧ b < 132) ∨ (151 ≤ b ∧ b < 1000) → (∀ j, S5.1 b j = S.1 b j) ∧ S5.2 b = S.2 b := by
    intro b hb
    have w1 := agS4 b (by omega)
    have w2 : (∀ j, S5.1 b j = S4.1 b j) ∧ S5.2 b = S4.2 b := by
      rcases hb with ⟨q1, q2⟩ | ⟨q1, q2⟩
      · exact c4.1 b (by omega) (by omega)
      · exact c4.2 b (by omega) (by omega)
    exact ⟨fun j => (w2.1 j).trans (w1.1 j), w2.2.trans w1.2⟩
  have hpk : (srvP os wn hv).length ≤ 16 := by
    have hle := h3.2.1
    obtain ⟨nd, hlt⟩ := pkAll_ok os (inclL os 24 wn []) (inclL os 16 hv [])
    exact nodup_len nd (fun j hj => by have := hlt j hj; omega)
  have F5 : Fr S4 S5 (fun b _ => b < 4 ∨ (142 ≤ b ∧ b < 151) ∨ 1000 ≤ b) (fun b => b < 4 ∨ (142 ≤ b ∧ b < 151) ∨ 1000 ≤ b) := by
    refine ⟨fun b j q => ?_, fun b q => ?_⟩
    · by_cases z : b < 142
      · exact (c4.1 b (by omega) z).1 j
      · exact (c4.2 b (by omega) (by omega)).1 j
    · by_cases z : b < 142
      · exact (c4.1 b (by omega) z).2
      · exact (c4.2 b (by omega) (by omega)).2
  refine ⟨S5, go, ⟨c2', ?_, h3.agr (fun b q1 q2 => agS5 b (by omega)), h4.agr (fun b q1 q2 => agS5 b (by omega)), ?_, h6, i7b.fr F5 (by omega) (by omega), i8b.fr F5 (by omega) (by omega), h9.keep go⟩, fun b q1 q2 => agS5 b (by omega)⟩
  · show ∀ x ∈ srvB os (srvP os wn hv), x < 256
    unfold srvB
    split
    · intro x hx; cases hx
    · exact packOut_b h3.ok hpk
  · rw [(agS5 131 (by omega)).2]
    exact h5
end CLS7
