/-! the class: its state, its small methods -/
theorem sk_1 : sk[1]? = some (0, [some 2, some 4, some 54, some 128, some 131, some 132, some 134, some 136, some 139, some 142, some 151]) := rfl
section CLS0
variable {S : vSt} {K : Value → Option (Option Value × vH)}
theorem p0 : vgf (hp S) 1 0 0 K = K (.ref 2) := vgf_ref sk_1 rfl rfl
theorem p1 : vgf (hp S) 1 0 1 K = K (.ref 4) := vgf_ref sk_1 rfl rfl
theorem p2 : vgf (hp S) 1 0 2 K = K (.ref 54) := vgf_ref sk_1 rfl rfl
theorem p3 : vgf (hp S) 1 0 3 K = K (.ref 128) := vgf_ref sk_1 rfl rfl
theorem p4 : vgf (hp S) 1 0 4 K = K (.ref 131) := vgf_ref sk_1 rfl rfl
theorem p5 : vgf (hp S) 1 0 5 K = K (.ref 132) := vgf_ref sk_1 rfl rfl
theorem p6 : vgf (hp S) 1 0 6 K = K (.ref 134) := vgf_ref sk_1 rfl rfl
theorem p7 : vgf (hp S) 1 0 7 K = K (.ref 136) := vgf_ref sk_1 rfl rfl
theorem p8 : vgf (hp S) 1 0 8 K = K (.ref 139) := vgf_ref sk_1 rfl rfl
theorem p9 : vgf (hp S) 1 0 9 K = K (.ref 142) := vgf_ref sk_1 rfl rfl
theorem p10 : vgf (hp S) 1 0 10 K = K (.ref 151) := vgf_ref sk_1 rfl rfl
theorem pt : vtag (hp S) 1 = 0 := vtag_hp sk_1
end CLS0
/-- buffer, server, client, refs, wants, haves -/
abbrev Mst : Type := List Nat × List Obj × List Obj × List Int32 × List Int32 × List Int32
/-- the rooms of the arrays that hold nothing between calls -/
def Lens (S : vSt) : Prop := (S.2 130).length = 24 ∧ (S.2 137).length = 24 ∧ (S.2 138).length = 24 ∧ (S.2 140).length = 16 ∧ (S.2 141).length = 16 ∧ WLen S ∧ (∀ e, e < 16 → (S.2 (155 + 6 * e)).length = 255) ∧ ∀ e, e < 16 → (S.2 (158 + 6 * e)).length = 24
def ClsIs (S : vSt) (m : Mst) : Prop := RowIs S 2 3 500 m.1 ∧ (∀ x ∈ m.1, x < 256) ∧ ShelfIs S 4 16 m.2.1 ∧ ShelfIs S 54 24 m.2.2.1 ∧ S.2 131 = m.2.2.2.1 ∧ m.2.2.2.1.length = 4 ∧ IdsIs S 132 133 16 m.2.2.2.2.1 ∧ IdsIs S 134 135 8 m.2.2.2.2.2 ∧ Lens S
theorem len_keepB {mi : Nat} {as : List Value} {v : Option Value} {S S1 : vSt} (h : callv mi as (hp S) = some (v, hp S1)) {a : Nat} (ha : sk[a]? = some (101, [])) : (S1.2 a).length = (S.2 a).length := by
  obtain ⟨f, hf⟩ := runv_iff.mp h
  have e1 : (hp S)[a]? = some (101, (S.2 a).map Value.int) := by rw [hp_get, ha]; rfl
  have e2 : (hp S1)[a]? = some (101, (S1.2 a).map Value.int) := by rw [hp_get, ha]; rfl
  obtain ⟨d, g1, g2, g3⟩ := vexec_keep hf a _ e1
  rw [e2] at g1
  cases g1
  simpa using g3
theorem Lens.keep {mi : Nat} {as : List Value} {v : Option Value} {S S1 : vSt} (h : Lens S) (hc : callv mi as (hp S) = some (v, hp S1)) : Lens S1 := by
  obtain ⟨h1, h2, h3, h4, h5, ⟨g1, g2, g3, g4, g5⟩, h7, h8⟩ := h
  have s1 : ∀ e, e < 16 → sk[155 + 6 * e]? = some (100, []) := by decide +kernel
  have s2 : ∀ e, e < 16 → sk[158 + 6 * e]? = some (100, []) := by decide +kernel
  exact ⟨by rw [len_keep hc rfl, h1], by rw [len_keepB hc rfl, h2], by rw [len_keep hc rfl, h3], by rw [len_keepB hc rfl, h4], by rw [len_keep hc rfl, h5], ⟨by rw [len_keep hc rfl, g1], by rw [len_keep hc rfl, g2], by rw [len_keep hc rfl, g3], by rw [len_keep hc rfl, g4], by rw [len_keep hc rfl, g5]⟩, fun e he => by rw [len_keep hc (s1 e he), h7 e he], fun e he => by rw [len_keep hc (s2 e he), h8 e he]⟩
theorem IdsIs.fr {S S1 : vSt} {P : Nat → Nat → Prop} {A : Nat → Prop} {l a N : Nat} {xs : List Int32} (h : IdsIs S l a N xs) (hf : Fr S S1 P A) (h1 : ¬ P l 1) (h2 : ¬ A a) : IdsIs S1 l a N xs := by
  obtain ⟨g1, g2, g3, g4, g5, g6⟩ := h
  exact ⟨g1, g2, by rw [hf.1 _ _ h1, g3], by rw [hf.2 _ h2, g4], by rw [hf.2 _ h2, g5], g6⟩
/-- only cells that hold nothing between calls -/
def PS : Nat → Nat → Prop := fun b _ => 128 ≤ b ∧ b < 249 ∧ b ≠ 132 ∧ b ≠ 134
def AS : Nat → Prop := fun b => 128 ≤ b ∧ b < 249 ∧ b ≠ 131 ∧ b ≠ 133 ∧ b ≠ 135
theorem ClsIs.sc {S S1 : vSt} {m : Mst} (h : ClsIs S m) (hf : Fr S S1 PS AS) (hl : Lens S1) : ClsIs S1 m := by
  obtain ⟨h1, h2, h3, h4, h5, h6, h7, h8, h9⟩ := h
  have e131 : S1.2 131 = S.2 131 := hf.2 131 (by rintro ⟨-, -, q, -⟩; exact q rfl)
  refine ⟨h1.fr hf ?_ ?_, h2, h3.fr hf ?_ ?_, h4.fr hf ?_ ?_, by rw [e131, h5], h6, h7.fr hf ?_ ?_, h8.fr hf ?_ ?_, hl⟩
  · rintro ⟨q, -⟩; omega
  · rintro ⟨q, -⟩; omega
  · rintro b j ⟨q, -⟩; omega
  · rintro b ⟨q, -⟩; omega
  · rintro b j ⟨q, -⟩; omega
  · rintro b ⟨q, -⟩; omega
  · rintro ⟨-, -, q, -⟩; exact q rfl
  · rintro ⟨-, -, -, q, -⟩; exact q rfl
  · rintro ⟨-, -, -, q⟩; exact q rfl
  · rintro ⟨-, -, -, -, q⟩; exact q rfl
/-- one call of the class: its answer, its state after it; the reference's cells stay -/
def Meth (S : vSt) (mi : Nat) (as : List Value) (v : Int32) (m : Mst) : Prop := ∃ S1, callv mi (.ref 1 :: as) (hp S) = some (some (.int v), hp S1) ∧ ClsIs S1 m ∧ Agr S S1 249 300
theorem Fr.agr {S S1 : vSt} {P : Nat → Nat → Prop} {A : Nat → Prop} (hf : Fr S S1 P A) (h1 : ∀ b j, P b j → b < 249) (h2 : ∀ b, A b → b < 249) : Agr S S1 249 300 := fun b q1 q2 => ⟨fun j => hf.1 b j (fun z => by have := h1 b j z; omega), hf.2 b (fun z => by have := h2 b z; omega)⟩
section CLS1
variable {S : vSt} {bs : List Nat} {os cs : List Obj} {rf wn hv : List Int32}
theorem ClsIs.row (h : ClsIs S (bs, os, cs, rf, wn, hv)) {ds : List Nat} (hl : ds.length ≤ 500) (hb : ∀ x ∈ ds, x < 256) : ClsIs (rowSet S 2 3 ds) (ds, os, cs, rf, wn, hv) ∧ Agr S (rowSet S 2 3 ds) 249 300 := by
  obtain ⟨h1, h2, h3, h4, h5, h6, h7, h8, h9⟩ := h
  have F : Fr S (rowSet S 2 3 ds) (fun b j => b = 2 ∧ j = 1) (fun b => b = 3) := Fr.row ⟨rfl, rfl⟩ rfl
  have n2 : ∀ a, a ≠ 3 → (rowSet S 2 3 ds).2 a = S.2 a := fun a ha => F.2 a ha
  refine ⟨⟨h1.set hl, hb, h3.fr F (fun b j q => by omega) (fun b q => by omega), h4.fr F (fun b j q => by omega) (fun b q => by omega), by rw [n2 131 (by omega), h5], h6, h7.fr F (by omega) (by omega), h8.fr F (by omega) (by omega), ?_⟩, F.agr (fun b j q => by omega) (fun b q => by omega)⟩
  obtain ⟨k1, k2, k3, k4, k5, ⟨g1, g2, g3, g4, g5⟩, k7, k8⟩ := h9
  exact ⟨by rw [n2 _ (by omega), k1], by rw [n2 _ (by omega), k2], by rw [n2 _ (by omega), k3], by rw [n2 _ (by omega), k4], by rw [n2 _ (by omega), k5], ⟨by rw [n2 _ (by omega), g1], by rw [n2 _ (by omega), g2], by rw [n2 _ (by omega), g3], by rw [n2 _ (by omega), g4], by rw [n2 _ (by omega), g5]⟩, fun e he => by rw [n2 _ (by omega), k7 e he], fun e he => by rw [n2 _ (by omega), k8 e he]⟩
theorem m_size (h : ClsIs S (bs, os, cs, rf, wn, hv)) : Meth S 4 [] (nI bs.length) (bs, os, cs, rf, wn, hv) := by
  have t := rowt (S := S) isRow_o
  refine ⟨S, ?_, h, Agr.rf⟩
  show runv 4 0 [some (.ref 1)] [] (hp S) = _
  simp only [s4_0, s4_1, s4_4, s4_7, p0, List.length_cons, List.length_nil, Nat.reduceAdd, Nat.reduceLeDiff, Nat.zero_le, t, c_used h.1, vbind_some, vpush_some]
theorem m_at (h : ClsIs S (bs, os, cs, rf, wn, hv)) (p : Int32) : Meth S 5 [.int p] (rget bs p) (bs, os, cs, rf, wn, hv) := by
  have t := rowt (S := S) isRow_o
  refine ⟨S, ?_, h, Agr.rf⟩
  show runv 5 0 [some (.ref 1), some (.int p)] [] (hp S) = _
  simp only [s5_0, s5_1, s5_4, s5_5, s5_8, p0, List.length_cons, List.length_nil, Nat.reduceAdd, Nat.reduceLeDiff, Nat.zero_le, t, c_get h.1, vbind_some, vpush_some]
theorem m_cut (h : ClsIs S (bs, os, cs, rf, wn, hv)) (p : Int32) : if ¬ p < 0 ∧ p ≤ nI bs.length then Meth S 3 [.int p] 1 (bs.take p.toNatClampNeg, os, cs, rf, wn, hv) else Meth S 3 [.int p] 0 (bs, os, cs, rf, wn, hv) := by
  have t := rowt (S := S) isRow_o
  have b5 : bs.length ≤ 500 := h.1.2.2.2.2.1
  have e : callv 3 [.ref 1, .int p] (hp S) = vbind (callv 152 [.ref 2, .int p] (hp S)) (fun v h' => runv 3 8 [some (.ref 1), some (.int p)] (vpush v []) h') := by
    show runv 3 0 [some (.ref 1), some (.int p)] [] (hp S) = _
    simp only [s3_0, s3_1, s3_4, s3_5, p0, List.length_cons, List.length_nil, Nat.reduceAdd, Nat.reduceLeDiff, Nat.zero_le, t]
  rw [c_shorten h.1] at e
  by_cases h1 : p < 0
  · rw [if_neg (fun q => q.1 h1)]
    rw [if_pos h1, vbind_some, vpush_some, s3_8 vb0] at e
    exact ⟨S, e, h, Agr.rf⟩
  · rw [if_neg h1] at e
    by_cases h2 : p ≤ nI bs.length
    · rw [if_pos ⟨h1, h2⟩]
      rw [if_pos h2, vbind_some, vpush_some, s3_8 vb1] at e
      have := h.row (ds := bs.take p.toNatClampNeg) (by rw [List.length_take]; omega) (fun x hx => h.2.1 x (List.mem_of_mem_take hx))
      exact ⟨_, e, this⟩
    · rw [if_neg (fun q => h2 q.2)]
      rw [if_neg h2, vbind_some, vpush_some, s3_8 vb0] at e
      exact ⟨S, e, h, Agr.rf⟩
theorem m_set (h : ClsIs S (bs, os, cs, rf, wn, hv)) (p : Int32) (b : Int32) : if ¬ b < 0 ∧ b ≤ 255 ∧ ¬ p < 0 ∧ p < nI bs.length then Meth S 2 [.int p, .int b] 1 (bs.set p.toNatClampNeg b.toNatClampNeg, os, cs, rf, wn, hv) else Meth S 2 [.int p, .int b] 0 (bs, os, cs, rf, wn, hv) := by
  have t := rowt (S := S) isRow_o
  have b5 : bs.length ≤ 500 := h.1.2.2.2.2.1
  have e : callv 2 [.ref 1, .int p, .int b] (hp S) = if b < 0 then some (some (.int 0), hp S) else if b ≤ 255 then vbind (callv 151 [.ref 2, .int p, .int b] (hp S)) (fun v h' => runv 2 22 [some (.ref 1), some (.int p), some (.int b)] (vpush v []) h') else some (some (.int 0), hp S) := by
    show runv 2 0 [some (.ref 1), some (.int p), some (.int b)] [] (hp S) = _
    simp only [s2_0, s2_1, s2_4, s2_5, s2_8, s2_11, s2_12, s2_13, s2_14, s2_17, s2_18, s2_19, p0, List.length_cons, List.length_nil, Nat.reduceAdd, Nat.reduceLeDiff, Nat.zero_le, t, vb0]
  have hfalse : (callv 2 [.ref 1, .int p, .int b] (hp S) = some (some (.int 0), hp S)) → Meth S 2 [.int p, .int b] 0 (bs, os, cs, rf, wn, hv) := fun q => ⟨S, q, h, Agr.rf⟩
  by_cases hb0 : b < 0
  · rw [if_pos hb0] at e
    rw [if_neg (fun q => q.1 hb0)]
    exact hfalse e
  · rw [if_neg hb0] at e
    by_cases hb1 : b ≤ 255
    · rw [if_pos hb1] at e
      obtain ⟨x, hx, hbx⟩ : ∃ x : Nat, x < 256 ∧ b = nI x := by
        have i0 : (0 : Int) ≤ b.toInt := by
          have := mt Int32.lt_iff_toInt_lt.mpr hb0
          simpa using this
        have i1 : b.toInt ≤ 255 := by
          have := Int32.le_iff_toInt_le.mp hb1
          simpa using this
        refine ⟨b.toInt.toNat, by omega, ?_⟩
        apply Int32.toInt_inj.mp
        rw [nI_toInt (by omega)]
        omega
      subst hbx
      rw [c_replace h.1] at e
      by_cases h1 : p < 0
      · rw [if_neg (fun q => q.2.2.1 h1)]
        rw [if_pos h1, vbind_some, vpush_some, s2_22 vb0] at e
        exact hfalse e
      · rw [if_neg h1] at e
        by_cases h2 : p < nI bs.length
        · rw [if_pos ⟨hb0, hb1, h1, h2⟩]
          rw [if_pos h2, vbind_some, vpush_some, s2_22 vb1] at e
          have := h.row (ds := bs.set p.toNatClampNeg x) (by rw [List.length_set]; exact b5) (fun y hy => by
            rcases List.mem_or_eq_of_mem_set hy with z | z
            · exact h.2.1 y z
            · omega)
          rw [nI_clamp (by omega)]
          exact ⟨_, e, this⟩
        · rw [if_neg (fun q => h2 q.2.2.2)]
          rw [if_neg h2, vbind_some, vpush_some, s2_22 vb0] at e
          exact hfalse e
    · rw [if_neg hb1] at e
      rw [if_neg (fun q => hb1 q.2.1)]
      exact hfalse e
end CLS1
