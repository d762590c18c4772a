/-! rows of bytes -/
theorem vfit_int {t k : Nat} {x : Int32} (h : vty t k = .int) : vfit t k (.int x) = true := by simp [vfit, h, narrow, fits]
theorem vb0 : (0 : Int32) &&& 1 = 0 := by decide
theorem vb1 : (1 : Int32) &&& 1 = 1 := by decide
def isRow (r a : Nat) : Prop := sk[r]? = some (1, [some a, none]) ∧ sk[a]? = some (100, [])
section ROW0
variable {S : vSt} {r a : Nat} {K : Value → Option (Option Value × vH)} {K2 : vH → Option (Option Value × vH)}
theorem row0 (hr : isRow r a) : vgf (hp S) r 1 0 K = K (.ref a) := vgf_ref hr.1 rfl rfl
theorem row1 (hr : isRow r a) : vgf (hp S) r 1 1 K = K (.int (S.1 r 1)) := vgf_int hr.1 rfl rfl
theorem rowp (hr : isRow r a) {x : Int32} : vpf (hp S) r 1 1 (.int x) K2 = K2 (hp (fu S r 1 x)) := vpf_int hr.1 rfl rfl (vfit_int rfl)
theorem rowl (hr : isRow r a) : vlen2 (hp S) a K = K (.int (nI (S.2 a).length)) := vlen2_int hr.2 rfl
theorem rowg (hr : isRow r a) {i : Nat} (hi : i < (S.2 a).length) (hl : (S.2 a).length ≤ 10000) : vld2 (hp S) a (fun t => t == 100 || t == 104) (nI i) K = K (.int ((S.2 a).getD i 0)) := by
  rw [vld2_int hr.2 rfl rfl (nI_pos (by omega)) (by rw [nI_clamp (by omega)]; exact hi), nI_clamp (by omega)]
theorem rowst (hr : isRow r a) {i : Nat} {x : Int32} (hi : i < (S.2 a).length) (hl : (S.2 a).length ≤ 10000) : vst2 (hp S) a 100 (nI i) (.int x) K2 = K2 (hp (au S a ((S.2 a).set i x))) := by
  rw [vst2_int hr.2 rfl (nI_pos (by omega)) (by rw [nI_clamp (by omega)]; exact hi), nI_clamp (by omega)]
theorem rowt (hr : isRow r a) : vtag (hp S) r = 1 := vtag_hp hr.1
end ROW0
/-- the row r, its array a of N places, holds bs -/
def RowIs (S : vSt) (r a N : Nat) (bs : List Nat) : Prop := isRow r a ∧ S.1 r 1 = nI bs.length ∧ (S.2 a).length = N ∧ (S.2 a).take bs.length = bs.map nI ∧ bs.length ≤ N ∧ N ≤ 10000
def rowSet (S : vSt) (r a : Nat) (bs : List Nat) : vSt := au (fu S r 1 (nI bs.length)) a (bs.map nI ++ (S.2 a).drop bs.length)
theorem RowIs.get {S : vSt} {r a N i : Nat} {bs : List Nat} (h : RowIs S r a N bs) (hi : i < bs.length) : (S.2 a).getD i 0 = nI (bs.getD i 0) := by
  have e : ((S.2 a).take bs.length)[i]? = (bs.map nI)[i]? := by rw [h.2.2.2.1]
  rw [List.getElem?_take_of_lt hi, List.getElem?_map] at e
  rw [List.getD_eq_getElem?_getD, e, List.getD_eq_getElem?_getD, List.getElem?_eq_getElem hi]
  rfl
theorem RowIs.set {S : vSt} {r a N : Nat} {bs cs : List Nat} (h : RowIs S r a N bs) (hc : cs.length ≤ N) : RowIs (rowSet S r a cs) r a N cs := by
  obtain ⟨h1, h2, h3, h4, h5, h6⟩ := h
  refine ⟨h1, ?_, ?_, ?_, hc, h6⟩
  · simp [rowSet, au_1, fu_at]
  · simp [rowSet, au_at]; omega
  · simp only [rowSet, au_at]
    rw [List.take_left' (by simp)]
theorem RowIs.other {S : vSt} {r a N r' a' N' : Nat} {bs cs ds : List Nat} (h : RowIs S r a N bs) (hr : r ≠ r') (ha : a ≠ a') : RowIs (rowSet S r' a' ds) r a N bs := by
  obtain ⟨h1, h2, h3, h4, h5, h6⟩ := h
  refine ⟨h1, ?_, ?_, ?_, h5, h6⟩
  · rw [rowSet, au_1, fu_a S _ hr, h2]
  · rw [rowSet, au_a _ _ ha, fu_2, h3]
  · rw [rowSet, au_a _ _ ha, fu_2, h4]
theorem set_app {l m : List Int32} {n : Nat} {v : Int32} (h : l.take n = m) (hn : n < l.length) : l.set n v = m ++ [v] ++ l.drop (n + 1) := by
  rw [List.set_eq_take_append_cons_drop, if_pos hn, h]
  simp
theorem c_used {S : vSt} {r a N : Nat} {bs : List Nat} (hR : RowIs S r a N bs) : callv 142 [.ref r] (hp S) = some (some (.int (nI bs.length)), hp S) := by
  show runv 142 0 [some (.ref r)] [] (hp S) = _
  simp only [s142_0, s142_1, s142_4, row1 hR.1, hR.2.1]
theorem c_left {S : vSt} {r a N : Nat} {bs : List Nat} (hR : RowIs S r a N bs) : callv 143 [.ref r] (hp S) = some (some (.int (nI (N - bs.length))), hp S) := by
  show runv 143 0 [some (.ref r)] [] (hp S) = _
  simp only [s143_0, s143_1, s143_4, s143_5, s143_6, s143_9, s143_10, row0 hR.1, row1 hR.1, rowl hR.1, hR.2.1, hR.2.2.1, pk_sub hR.2.2.2.2.1]
theorem c_clear {S : vSt} {r a N : Nat} {bs : List Nat} (hR : RowIs S r a N bs) : callv 146 [.ref r] (hp S) = some (none, hp (rowSet S r a [])) := by
  show runv 146 0 [some (.ref r)] [] (hp S) = _
  simp only [s146_0, s146_1, s146_2, s146_5, rowp hR.1]
  rfl
theorem c_add {S : vSt} {r a N x : Nat} {bs : List Nat} (hR : RowIs S r a N bs) (hl : bs.length < N) : callv 147 [.ref r, .int (nI x)] (hp S) = some (none, hp (rowSet S r a (bs ++ [x]))) := by
  have hR0 := hR
  obtain ⟨h1, h2, h3, h4, h5, h6⟩ := hR
  show runv 147 0 [some (.ref r), some (.int (nI x))] [] (hp S) = _
  simp only [s147_0, s147_1, s147_4, s147_5, s147_8, s147_9, s147_12, s147_13, s147_16, s147_17, s147_20, s147_21, s147_22, s147_23, r147_23, s147_24, s147_27, s147_28, s147_29, s147_32, row0 h1, row1 h1, rowl h1, h2, h3, au_1]
  rw [if_neg (nI_ge hl (by omega)), rowst h1 (by omega) (by omega)]
  simp only [s147_0, s147_1, s147_4, s147_5, s147_8, s147_9, s147_12, s147_13, s147_16, s147_17, s147_20, s147_21, s147_22, s147_23, r147_23, s147_24, s147_27, s147_28, s147_29, s147_32, row0 h1, row1 h1, h2, au_1, rowp h1, nI_1]
  rw [set_app h4 (by omega)]
  congr 3
  simp only [rowSet, List.map_append, List.length_append, List.length_singleton, List.map_cons, List.map_nil]
  rfl
/-- what get answers -/
def rget (bs : List Nat) (p : Int32) : Int32 := if p < 0 then -1 else if p < nI bs.length then nI (bs.getD p.toNatClampNeg 0) else -1
theorem c_get {S : vSt} {r a N : Nat} {p : Int32} {bs : List Nat} (hR : RowIs S r a N bs) : callv 144 [.ref r, .int p] (hp S) = some (some (.int (rget bs p)), hp S) := by
  have hR0 := hR
  obtain ⟨h1, h2, h3, h4, h5, h6⟩ := hR
  show runv 144 0 [some (.ref r), some (.int p)] [] (hp S) = _
  simp only [s144_0, s144_1, s144_4, s144_5, s144_6, s144_9, s144_12, s144_13, s144_16, s144_17, s144_20, s144_21, s144_22, row0 h1, row1 h1, h2]
  unfold rget
  by_cases hp0 : p < 0
  · rw [if_pos hp0, if_pos hp0]
  · rw [if_neg hp0, if_neg hp0]
    by_cases hp1 : p < nI bs.length
    · rw [if_pos hp1, if_pos hp1]
      obtain ⟨j, hj, rfl⟩ := nI_of hp0
      have hjl : j < bs.length := (nI_ltI hj (by omega)).mp hp1
      rw [rowg h1 (by omega) (by omega), hR0.get hjl, nI_clamp hj]
      simp only [s144_0, s144_1, s144_4, s144_5, s144_6, s144_9, s144_12, s144_13, s144_16, s144_17, s144_20, s144_21, s144_22]
    · rw [if_neg hp1, if_neg hp1]
