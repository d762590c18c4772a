/-! writing packs: heads, bounds, picks -/
theorem diffF_len (B C : List Nat) : ∀ n p w, p ≤ C.length → w ≤ p → (diffF B C n p w).length ≤ (C.length - p) + w + 1 := by
  intro n
  induction n with
  | zero =>
    intro p w hp0 hw
    unfold diffF
    rw [putL_len (n := w) (by simp; omega)]
    split <;> omega
  | succ n ih =>
    intro p w hp0 hw
    unfold diffF
    split
    · rename_i h1
      have hcm := commN_le (C.drop p) (B.drop (lpl B C p))
      simp only [List.length_drop] at hcm
      split
      · rename_i h3
        have g := ih (p + commN (C.drop p) (B.drop (lpl B C p))) 0 (by omega) (by omega)
        have g2 : (putL ((C.drop (p - w)).take w)).length ≤ w + 1 := by
          rw [putL_len (n := w) (by simp; omega)]
          split <;> omega
        simp only [List.length_append, List.length_cons]
        omega
      · have g := ih (p + 1) (w + 1) (by omega) (by omega)
        omega
    · rw [putL_len (n := w) (by simp; omega)]
      split <;> omega
theorem diffL_len (B C : List Nat) : (diffL B C).length ≤ C.length + 3 := by
  have := diffF_len B C (C.length + 1) 0 0 (by omega) (by omega)
  unfold diffL
  simp only [List.length_cons]
  omega
theorem plE_stop (bs : List Nat) (p : Nat) (hl : bs.length ≤ 128) : ∀ n e, bs.length ≤ e + n → e ≤ bs.length → plE bs p n e = bs.length ∨ (plE bs p n e < bs.length ∧ 3 ≤ sameN bs (plE bs p n e)) ∨ (plE bs p n e < bs.length ∧ 128 ≤ plE bs p n e - p) := by
  intro n
  induction n with
  | zero => intro e h1 h2; unfold plE; left; omega
  | succ n ih =>
    intro e h1 h2
    unfold plE
    split
    · rename_i hc
      exact ih (e + 1) (by omega) (by omega)
    · rename_i hc
      by_cases q1 : e < bs.length
      · by_cases q2 : e - p < 128
        · right; left
          refine ⟨q1, ?_⟩
          by_cases q3 : sameN bs e < 3
          · exact absurd ⟨q1, q2, q3⟩ hc
          · omega
        · right; right
          exact ⟨q1, by omega⟩
      · left; omega
theorem packF_len (bs : List Nat) (hl : bs.length ≤ 128) : ∀ n p, p ≤ bs.length → (packF bs n p).length ≤ bs.length - p + 1 ∧ (p < bs.length → 3 ≤ sameN bs p → (packF bs n p).length ≤ bs.length - p) ∧ (bs.length ≤ p → (packF bs n p).length = 0) := by
  intro n
  induction n with
  | zero => intro p hp0; simp [packF]
  | succ n ih =>
    intro p hp0
    unfold packF
    by_cases h1 : p < bs.length
    · rw [if_pos h1]
      have hs := sameN_le bs p
      by_cases h3 : 3 ≤ sameN bs p
      · rw [if_pos h3]
        have g := (ih (p + min (sameN bs p) 130) (by omega)).1
        simp only [List.length_append, List.length_cons, List.length_nil]
        refine ⟨by omega, fun _ _ => by omega, fun q => by omega⟩
      · rw [if_neg h3]
        obtain ⟨q1, q2, q3⟩ := plN_in h1
        have g := ih (p + plN bs p) (by omega)
        have st := plE_stop bs p hl bs.length (p + 1) (by omega) (by omega)
        have e : plE bs p bs.length (p + 1) = p + plN bs p := by
          have := plE_in bs p bs.length (p + 1) (by omega)
          unfold plN
          omega
        rw [e] at st
        simp only [List.length_append, List.length_cons, List.length_take, List.length_drop]
        refine ⟨?_, fun _ q => absurd q h3, fun q => by omega⟩
        rcases st with st | ⟨s1, s2⟩ | ⟨s1, s2⟩
        · have := g.2.2 (by omega); omega
        · have := g.2.1 s1 s2; omega
        · omega
    · rw [if_neg h1]
      simp
theorem packL_len {bs : List Nat} (hl : bs.length ≤ 128) : (packL bs).length ≤ bs.length + 1 := by
  have := (packF_len bs hl (bs.length + 1) 0 (by omega)).1
  unfold packL
  omega
def headL (sort size : Nat) : List Nat := if size / 16 = 0 then [16 * sort + size % 16] else [16 * sort + size % 16 + 128, size / 16]
theorem headL_len (s z : Nat) : 1 ≤ (headL s z).length ∧ (headL s z).length ≤ 2 := by unfold headL; split <;> simp
theorem c_writeHead {S : vSt} {rt at_ N s z : Nat} {ts : List Nat} (hT : RowIs S rt at_ N ts) (hs : s ≤ 7) (hz : z ≤ 255) (hN : ts.length + 2 ≤ N) : callv 137 [.int (nI s), .int (nI z), .ref rt] (hp S) = some (none, hp (rowSet S rt at_ (ts ++ headL s z))) := by
  have tt := fun S => rowt (S := S) hT.1
  have e0 : ¬ (16 : Int32) = 0 := by decide
  have ed : nI z / 16 = nI (z / 16) := pk_div (d := 16) (by omega) (by omega) (by omega)
  have er : nI z - nI z / 16 * 16 = nI (z % 16) := pk_rem (d := 16) (by omega) (by omega) (by omega)
  have er2 : nI z - nI (z / 16) * 16 = nI (z % 16) := by rw [← ed]; exact er
  have em : (16 : Int32) * nI s = nI (16 * s) := by rw [show (16 : Int32) = nI 16 from rfl, pk_mul]
  have m0 : (nI (z / 16) = 0) = (z / 16 = 0) := nI_inj (b := 0) (by omega) (by omega)
  have e1 := c_add hT (x := 16 * s + z % 16) (by omega)
  have e2 := c_add hT (x := 16 * s + z % 16 + 128) (by omega)
  have hT1 := hT.set (cs := ts ++ [16 * s + z % 16 + 128]) (by simp; omega)
  have e3 := c_add hT1 (x := z / 16) (by simp; omega)
  show runv 137 0 [some (.int (nI s)), some (.int (nI z)), some (.ref rt), none, none] [] (hp S) = _
  simp only [s137_0, s137_1, s137_3, s137_4, s137_5, s137_7, s137_8, s137_9, s137_10, s137_12, s137_13, s137_14, s137_16, s137_17, s137_20, s137_21, s137_23, s137_26, s137_29, s137_30, s137_32, s137_35, s137_36, s137_39, s137_40, s137_41, s137_44, e0, not_false_eq_true, ed, er2, em, nI_add, m0, List.length_cons, List.length_nil, Nat.reduceAdd, Nat.reduceLeDiff, Nat.zero_le, tt, e1, show (128 : Int32) = nI 128 from rfl, e2, e3, vbind_some, vpush_none]
  unfold headL
  by_cases h : z / 16 = 0
  · rw [if_pos h, if_pos h]
  · rw [if_neg h, if_neg h, rowSet_grow (by simp), List.append_assoc]
    rfl
/-- the writer: its cells stand still -/
theorem sk_w : sk[142]? = some (6, [some 4, some 2, some 143, some 144, none, some 145, some 147, some 149]) := rfl
theorem isRow_o : isRow 2 3 := ⟨rfl, rfl⟩
theorem isRow_d : isRow 145 146 := ⟨rfl, rfl⟩
theorem isRow_t : isRow 147 148 := ⟨rfl, rfl⟩
theorem isRow_b : isRow 149 150 := ⟨rfl, rfl⟩
section WR0
variable {S : vSt} {K : Value → Option (Option Value × vH)} {K2 : vH → Option (Option Value × vH)}
theorem w0 : vgf (hp S) 142 6 0 K = K (.ref 4) := vgf_ref sk_w rfl rfl
theorem w1 : vgf (hp S) 142 6 1 K = K (.ref 2) := vgf_ref sk_w rfl rfl
theorem w2 : vgf (hp S) 142 6 2 K = K (.ref 143) := vgf_ref sk_w rfl rfl
theorem w3 : vgf (hp S) 142 6 3 K = K (.ref 144) := vgf_ref sk_w rfl rfl
theorem w4 : vgf (hp S) 142 6 4 K = K (.int (S.1 142 4)) := vgf_int sk_w rfl rfl
theorem w5 : vgf (hp S) 142 6 5 K = K (.ref 145) := vgf_ref sk_w rfl rfl
theorem w6 : vgf (hp S) 142 6 6 K = K (.ref 147) := vgf_ref sk_w rfl rfl
theorem w7 : vgf (hp S) 142 6 7 K = K (.ref 149) := vgf_ref sk_w rfl rfl
theorem w4p {x : Int32} : vpf (hp S) 142 6 4 (.int x) K2 = K2 (hp (fu S 142 4 x)) := vpf_int sk_w rfl rfl (vfit_int rfl)
theorem wt : vtag (hp S) 142 = 6 := vtag_hp sk_w
end WR0
theorem sk143 : sk[143]? = some (100, []) := rfl
theorem sk144 : sk[144]? = some (100, []) := rfl
