/-! rows of bytes -/
theorem vfit_int {t k : Nat} {x : Int32} (h : vty t k = .int) : vfit t k (.int x) = true := by simp [vfit, h, narrow, fits]
theorem vb0 : (0 : Int32) &&& 1 = 0 := by decide
theorem vb1 : (1 : Int32) &&& 1 = 1 := by decide
def isRow (r a : Nat) : Prop := sk[r]? = some (1, [some a, none]) ∧ sk[a]? = some (100, [])
section ROW0
variable {S : vSt} {r a : Nat} {K : Value → Option (Option Value × vH)} {K2 : vH → Option (Option Value × vH)}
theorem row0 (hr : isRow r a) : vgf (hp S) r 1 0 K = K (.ref a) := vgf_ref hr.1 rfl rfl
theorem row1 (hr : isRow r a) : vgf (hp S) r 1 1 K = K (.int (S.1 r 1)) := vgf_int hr.1 rfl rfl
theorem rowp (hr : isRow r a) {x : Int32} : vpf (hp S) r 1 1 (.int x) K2 = K2 (hp (fu S r 1 x)) := vpf_int hr.1 rfl rfl (vfit_int rfl)
theorem rowl (hr : isRow r a) : vlen2 (hp S) a K = K (.int (nI (S.2 a).length)) := vlen2_int hr.2 rfl
theorem rowg (hr : isRow r a) {i : Nat} (hi : i < (S.2 a).length) (hl : (S.2 a).length ≤ 10000) : vld2 (hp S) a (fun t => t == 100 || t == 104) (nI i) K = K (.int ((S.2 a).getD i 0)) := by
  rw [vld2_int hr.2 rfl rfl (nI_pos (by omega)) (by rw [nI_clamp (by omega)]; exact hi), nI_clamp (by omega)]
theorem rowst (hr : isRow r a) {i : Nat} {x : Int32} (hi : i < (S.2 a).length) (hl : (S.2 a).length ≤ 10000) : vst2 (hp S) a 100 (nI i) (.int x) K2 = K2 (hp (au S a ((S.2 a).set i x))) := by
  rw [vst2_int hr.2 rfl (nI_pos (by omega)) (by rw [nI_clamp (by omega)]; exact hi), nI_clamp (by omega)]
theorem rowt (hr : isRow r a) : vtag (hp S) r = 1 := vtag_hp hr.1
end ROW0
/-- the row r, its array a of N places, holds bs -/
def RowIs (S : vSt) (r a N : Nat) (bs : List Nat) : Prop := isRow r a ∧ S.1 r 1 = nI bs.length ∧ (S.2 a).length = N ∧ (S.2 a).take bs.length = bs.map nI ∧ bs.length ≤ N ∧ N ≤ 10000
def rowSet (S : vSt) (r a : Nat) (bs : List Nat) : vSt := au (fu S r 1 (nI bs.length)) a (bs.map nI ++ (S.2 a).drop bs.length)
theorem RowIs.get {S : vSt} {r a N i : Nat} {bs : List Nat} (h : RowIs S r a N bs) (hi : i < bs.length) : (S.2 a).getD i 0 = nI (bs.getD i 0) := by
  have e : ((S.2 a).take bs.length)[i]? = (bs.map nI)[i]? := by rw [h.2.2.2.1]
  rw [List.getElem?_take_of_lt hi, List.getElem?_map] at e
  rw [List.getD_eq_getElem?_getD, e, List.getD_eq_getElem?_getD, List.getElem?_eq_getElem hi]
  rfl
theorem RowIs.set {S : vSt} {r a N : Nat} {bs cs : List Nat} (h : RowIs S r a N bs) (hc : cs.length ≤ N) : RowIs (rowSet S r a cs) r a N cs := by
  obtain ⟨h1, h2, h3, h4, h5, h6⟩ := h
  refine ⟨h1, ?_, ?_, ?_, hc, h6⟩
  · simp [rowSet, au_1, fu_at]
  · simp [rowSet, au_at]; omega
  · simp only [rowSet, au_at]
    rw [List.take_left' (by simp)]
theorem RowIs.other {S : vSt} {r a N r' a' : Nat} {bs ds : List Nat} (h : RowIs S r a N bs) (hr : r ≠ r') (ha : a ≠ a') : RowIs (rowSet S r' a' ds) r a N bs := by
  obtain ⟨h1, h2, h3, h4, h5, h6⟩ := h
  refine ⟨h1, ?_, ?_, ?_, h5, h6⟩
  · rw [rowSet, au_1, fu_a S _ hr, h2]
  · rw [rowSet, au_a _ _ ha, fu_2, h3]
  · rw [rowSet, au_a _ _ ha, fu_2, h4]
theorem set_app {l m : List Int32} {n : Nat} {v : Int32} (h : l.take n = m) (hn : n < l.length) : l.set n v = m ++ [v] ++ l.drop (n + 1) := by
  rw [List.set_eq_take_append_cons_drop, if_pos hn, h]
  simp
theorem au_self {S : vSt} {a : Nat} {l : List Int32} (h : S.2 a = l) : au S a l = S := by
  subst h
  refine Prod.ext rfl (funext fun b => ?_)
  by_cases hb : b = a
  · subst hb; rw [au_at]
  · rw [au_a S _ hb]
theorem rowSet_grow {S : vSt} {r a : Nat} {bs cs : List Nat} (h : bs.length ≤ cs.length) : rowSet (rowSet S r a bs) r a cs = rowSet S r a cs := by
  refine Prod.ext ?_ (funext fun b => ?_)
  · funext b j
    simp only [rowSet, au_1]
    by_cases hb : b = r ∧ j = 1
    · obtain ⟨rfl, rfl⟩ := hb
      rw [fu_at, fu_at]
    · simp only [fu, if_neg hb]
      simp only [au_1, if_neg hb]
  · by_cases hb : b = a
    · subst hb
      simp only [rowSet, au_at, fu_2]
      rw [List.drop_append, List.drop_of_length_le (by simp; exact h), List.nil_append, List.drop_drop]
      congr 2
      simp
      omega
    · simp only [rowSet, au_a _ _ hb, fu_2]
theorem c_used {S : vSt} {r a N : Nat} {bs : List Nat} (hR : RowIs S r a N bs) : callv 142 [.ref r] (hp S) = some (some (.int (nI bs.length)), hp S) := by
  show runv 142 0 [some (.ref r)] [] (hp S) = _
  simp only [s142_0, s142_1, s142_4, row1 hR.1, hR.2.1]
theorem c_left {S : vSt} {r a N : Nat} {bs : List Nat} (hR : RowIs S r a N bs) : callv 143 [.ref r] (hp S) = some (some (.int (nI (N - bs.length))), hp S) := by
  show runv 143 0 [some (.ref r)] [] (hp S) = _
  simp only [s143_0, s143_1, s143_4, s143_5, s143_6, s143_9, s143_10, row0 hR.1, row1 hR.1, rowl hR.1, hR.2.1, hR.2.2.1, pk_sub hR.2.2.2.2.1]
theorem c_clear {S : vSt} {r a N : Nat} {bs : List Nat} (hR : RowIs S r a N bs) : callv 146 [.ref r] (hp S) = some (none, hp (rowSet S r a [])) := by
  show runv 146 0 [some (.ref r)] [] (hp S) = _
  simp only [s146_0, s146_1, s146_2, s146_5, rowp hR.1]
  rw [rowSet, au_self (by simp [fu_2])]
  rfl
theorem c_add {S : vSt} {r a N x : Nat} {bs : List Nat} (hR : RowIs S r a N bs) (hl : bs.length < N) : callv 147 [.ref r, .int (nI x)] (hp S) = some (none, hp (rowSet S r a (bs ++ [x]))) := by
  have hR0 := hR
  obtain ⟨h1, h2, h3, h4, h5, h6⟩ := hR
  show runv 147 0 [some (.ref r), some (.int (nI x))] [] (hp S) = _
  simp only [s147_0, s147_1, s147_4, s147_5, s147_8, s147_9, s147_12, s147_13, s147_16, s147_17, s147_20, s147_21, s147_22, s147_23, r147_23, s147_24, s147_27, s147_28, s147_29, s147_32, row0 h1, row1 h1, rowl h1, h2, h3, au_1]
  rw [if_neg (nI_ge hl (by omega)), rowst h1 (by omega) (by omega)]
  simp only [s147_0, s147_1, s147_4, s147_5, s147_8, s147_9, s147_12, s147_13, s147_16, s147_17, s147_20, s147_21, s147_22, s147_23, r147_23, s147_24, s147_27, s147_28, s147_29, s147_32, row0 h1, row1 h1, h2, au_1, rowp h1, nI_1]
  rw [set_app h4 (by omega)]
  congr 3
  simp only [rowSet, List.map_append, List.length_append, List.length_singleton, List.map_cons, List.map_nil]
  rfl
/-- what get answers -/
def rget (bs : List Nat) (p : Int32) : Int32 := if p < 0 then -1 else if p < nI bs.length then nI (bs.getD p.toNatClampNeg 0) else -1
theorem c_get {S : vSt} {r a N : Nat} {p : Int32} {bs : List Nat} (hR : RowIs S r a N bs) : callv 144 [.ref r, .int p] (hp S) = some (some (.int (rget bs p)), hp S) := by
  have hR0 := hR
  obtain ⟨h1, h2, h3, h4, h5, h6⟩ := hR
  show runv 144 0 [some (.ref r), some (.int p)] [] (hp S) = _
  simp only [s144_0, s144_1, s144_4, s144_5, s144_6, s144_9, s144_12, s144_13, s144_16, s144_17, s144_20, s144_21, s144_22, row0 h1, row1 h1, h2]
  unfold rget
  by_cases hp0 : p < 0
  · rw [if_pos hp0, if_pos hp0]
  · rw [if_neg hp0, if_neg hp0]
    by_cases hp1 : p < nI bs.length
    · rw [if_pos hp1, if_pos hp1]
      obtain ⟨j, hj, rfl⟩ := nI_of hp0
      have hjl : j < bs.length := (nI_ltI hj (by omega)).mp hp1
      rw [rowg h1 (by omega) (by omega), hR0.get hjl, nI_clamp hj]
      simp only [s144_0, s144_1, s144_4, s144_5, s144_6, s144_9, s144_12, s144_13, s144_16, s144_17, s144_20, s144_21, s144_22]
    · rw [if_neg hp1, if_neg hp1]
theorem c_getTwo {S : vSt} {r a N : Nat} {p : Int32} {bs : List Nat} (hR : RowIs S r a N bs) : callv 145 [.ref r, .int p] (hp S) = some (some (.int (rget bs p * 256 + rget bs (p + 1))), hp S) := by
  show runv 145 0 [some (.ref r), some (.int p)] [] (hp S) = _
  have ht := rowt (S := S) hR.1
  simp only [s145_0, s145_1, s145_2, s145_5, s145_8, s145_9, s145_10, s145_11, s145_12, s145_13, s145_16, s145_17, List.length_cons, List.length_nil, Nat.reduceAdd, Nat.reduceLeDiff, ht, c_get hR, vbind_some, vpush_some, vpush_none]
theorem c_addTwo {S : vSt} {r a N n : Nat} {bs : List Nat} (hR : RowIs S r a N bs) (hl : bs.length + 2 ≤ N) (hn : n < 65536) : callv 148 [.ref r, .int (nI n)] (hp S) = some (none, hp (rowSet S r a (bs ++ [n / 256, n % 256]))) := by
  show runv 148 0 [some (.ref r), some (.int (nI n))] [] (hp S) = _
  have ht := fun S => rowt (S := S) hR.1
  have e0 : ¬ (256 : Int32) = 0 := by decide
  have e1 : nI n / 256 = nI (n / 256) := pk_div (d := 256) (by omega) (by omega) (by omega)
  have e2 : nI n - nI n / 256 * 256 = nI (n % 256) := pk_rem (d := 256) (by omega) (by omega) (by omega)
  have hR1 := hR.set (cs := bs ++ [n / 256]) (by simp; omega)
  simp only [s148_0, s148_1, s148_2, s148_5, s148_6, s148_9, s148_10, s148_11, s148_14, s148_15, s148_18, e0, not_false_eq_true, List.length_cons, List.length_nil, Nat.reduceAdd, Nat.reduceLeDiff, ht, e1, c_add hR (x := n / 256) (by omega), vbind_some, vpush_none]
  rw [show nI n - nI (n / 256) * 256 = nI (n % 256) by rw [← e1]; exact e2]
  simp only [s148_0, s148_1, s148_2, s148_5, s148_6, s148_9, s148_10, s148_11, s148_14, s148_15, s148_18, List.length_cons, List.length_nil, Nat.reduceAdd, Nat.reduceLeDiff, ht, c_add hR1 (x := n % 256) (by simp; omega), vbind_some, vpush_none]
  rw [rowSet_grow (by simp), List.append_assoc]
  rfl
theorem c_addPart {S : vSt} {r a N r' a' N' s n : Nat} {bs cs : List Nat} (hR : RowIs S r a N bs) (hR' : RowIs S r' a' N' cs) (hs : s + n ≤ cs.length) (hl : bs.length + n ≤ N) : callv 149 [.ref r, .ref r', .int (nI s), .int (nI n)] (hp S) = some (some (.int 1), hp (rowSet S r a (bs ++ (cs.drop s).take n))) := by
  obtain ⟨h1, h2, h3, h4, h5, h6⟩ := hR
  obtain ⟨g1, g2, g3, g4, g5, g6⟩ := hR'
  show runv 149 0 [some (.ref r), some (.ref r'), some (.int (nI s)), some (.int (nI n))] [] (hp S) = _
  have e1 : nI cs.length - nI n = nI (cs.length - n) := pk_sub (by omega)
  have e2 : nI N - nI bs.length = nI (N - bs.length) := pk_sub (by omega)
  simp only [s149_0, s149_1, s149_4, s149_5, s149_8, s149_9, s149_10, s149_13, s149_14, s149_15, s149_18, s149_19, s149_20, s149_23, s149_24, s149_25, s149_28, s149_29, s149_32, s149_33, s149_34, s149_35, s149_38, s149_39, s149_40, s149_43, s149_44, s149_47, s149_48, s149_51, s149_52, r149_52, s149_53, s149_56, s149_57, s149_58, s149_61, s149_62, row0 h1, row1 h1, row0 g1, row1 g1, rowl h1, h2, h3, g2, e1, e2]
  rw [if_neg (nI_pos (by omega)), if_neg (nI_pos (by omega)), if_neg (nI_nlt (by omega) (by omega)), if_pos (nI_le (by omega) (by omega))]
  rw [s149_48 (by simp)]
  rw [vcp2_int g1.2 h1.2 (nI_pos (by omega)) (nI_pos (by omega)) (nI_pos (by omega)) (by rw [nI_clamp (by omega), nI_clamp (by omega)]; omega) (by rw [nI_clamp (by omega), nI_clamp (by omega)]; omega)]
  rw [nI_clamp (by omega), nI_clamp (by omega), nI_clamp (by omega)]
  simp only [s149_0, s149_1, s149_4, s149_5, s149_8, s149_9, s149_10, s149_13, s149_14, s149_15, s149_18, s149_19, s149_20, s149_23, s149_24, s149_25, s149_28, s149_29, s149_32, s149_33, s149_34, s149_35, s149_38, s149_39, s149_40, s149_43, s149_44, s149_47, s149_48, s149_51, s149_52, r149_52, s149_53, s149_56, s149_57, s149_58, s149_61, s149_62, row1 h1, au_1, h2, rowp h1, nI_add, vb1]
  congr 3
  have e3 : ((S.2 a').drop s).take n = ((cs.drop s).take n).map nI := by
    have : ((S.2 a').take cs.length).drop s = (cs.map nI).drop s := by rw [g4]
    have e4 : (((S.2 a').take cs.length).drop s).take n = ((S.2 a').drop s).take n := by
      rw [List.drop_take, List.take_take]
      congr 1
      omega
    rw [← e4, this, List.map_take, List.map_drop]
  rw [e3, h4]
  have e5 : bs.length + n = (bs ++ (cs.drop s).take n).length := by simp; omega
  simp only [rowSet]
  rw [e5, List.map_append]
  rfl
theorem c_addPart0 {S : vSt} {r a N r' a' N' : Nat} {s n : Int32} {bs cs : List Nat} (hR : RowIs S r a N bs) (hR' : RowIs S r' a' N' cs) (hf : s < 0 ∨ n < 0 ∨ nI cs.length - n < s ∨ nI (N - bs.length) < n) : callv 149 [.ref r, .ref r', .int s, .int n] (hp S) = some (some (.int 0), hp S) := by
  obtain ⟨h1, h2, h3, h4, h5, h6⟩ := hR
  obtain ⟨g1, g2, g3, g4, g5, g6⟩ := hR'
  show runv 149 0 [some (.ref r), some (.ref r'), some (.int s), some (.int n)] [] (hp S) = _
  have e2 : nI N - nI bs.length = nI (N - bs.length) := pk_sub (by omega)
  simp only [s149_0, s149_1, s149_4, s149_5, s149_8, s149_9, s149_10, s149_13, s149_14, s149_15, s149_18, s149_19, s149_20, s149_23, s149_24, s149_25, s149_28, s149_29, s149_32, s149_33, s149_34, s149_35, s149_38, s149_39, s149_40, s149_43, s149_44, s149_47, s149_48, s149_51, s149_52, r149_52, s149_53, s149_56, s149_57, s149_58, s149_61, s149_62, row0 h1, row1 h1, row0 g1, row1 g1, rowl h1, h2, h3, g2, e2, vb0]
  by_cases q1 : s < 0
  · rw [if_pos q1]
  · rw [if_neg q1]
    by_cases q2 : n < 0
    · rw [if_pos q2]
    · rw [if_neg q2]
      by_cases q3 : nI cs.length - n < s
      · rw [if_pos q3]
      · rw [if_neg q3]
        rcases hf with hf | hf | hf | hf
        · exact absurd hf q1
        · exact absurd hf q2
        · exact absurd hf q3
        · rw [if_neg (Int32.not_le.mpr hf)]
theorem c_addAll {S : vSt} {r a N r' a' N' : Nat} {bs cs : List Nat} (hR : RowIs S r a N bs) (hR' : RowIs S r' a' N' cs) (hl : bs.length + cs.length ≤ N) : callv 150 [.ref r, .ref r'] (hp S) = some (none, hp (rowSet S r a (bs ++ cs))) := by
  show runv 150 0 [some (.ref r), some (.ref r')] [] (hp S) = _
  have ht := rowt (S := S) hR.1
  have e := c_addPart (s := 0) hR hR' (n := cs.length) (by omega) hl
  rw [List.drop_zero, List.take_length] at e
  simp only [s150_0, s150_1, s150_2, s150_3, s150_4, s150_7, s150_10, r150_10, s150_11, row1 hR'.1, hR'.2.1, List.length_cons, List.length_nil, Nat.reduceAdd, Nat.reduceLeDiff, ht]
  rw [show (0 : Int32) = nI 0 from rfl, e]
  simp only [vbind_some, vpush_some, s150_0, s150_1, s150_2, s150_3, s150_4, s150_7, s150_10, r150_10, s150_11]
def hst (h x : Nat) : Nat := (h * 257 + x) % 65521
def hashN (h : Nat) (bs : List Nat) : Nat := bs.foldl hst h
theorem hst_lt (h x : Nat) : hst h x < 65521 := Nat.mod_lt _ (by omega)
theorem hashN_lt {h : Nat} (bs : List Nat) (hh : h < 65521) : hashN h bs < 65521 := by
  induction bs generalizing h with
  | nil => exact hh
  | cons x t ih => exact ih (hst_lt h x)
theorem c_hashStep {h : vH} {g x : Nat} (hg : g < 65521) (hx : x < 65536) : callv 22 [.int (nI g), .int (nI x)] h = some (some (.int (nI (hst g x))), h) := by
  show runv 22 0 [some (.int (nI g)), some (.int (nI x))] [] h = _
  have e0 : ¬ (65521 : Int32) = 0 := by decide
  simp only [s22_0, s22_1, s22_4, s22_5, s22_6, s22_7, s22_9, s22_10, e0, not_false_eq_true]
  have e1 : nI g * 257 + nI x = nI (g * 257 + x) := by rw [show (257 : Int32) = nI 257 from rfl, pk_mul, nI_add]
  rw [e1, show (65521 : Int32) = nI 65521 from rfl, pk_rem (by omega) (by omega) (by omega)]
  rfl
theorem c_hashOn_loop {S : vSt} {r a N n : Nat} {w : Option Value} {bs : List Nat} (hR : RowIs S r a N bs) (hb : ∀ x ∈ bs, x < 256) (hn : n ≤ 10000) : ∀ k i g, i + k = min n bs.length → g < 65521 → runv 154 5 [some (.ref r), w, some (.int (nI n)), some (.int (nI g)), some (.int (nI i))] [] (hp S) = some (some (.int (nI (hashN g ((bs.drop i).take k)))), hp S) := by
  intro k
  induction k with
  | zero =>
    intro i g hi hg
    rw [s154_5]
    simp only [s154_0, s154_1, s154_2, s154_3, s154_7, s154_8, s154_11, s154_13, s154_14, s154_17, s154_20, s154_21, s154_22, s154_25, s154_27, s154_28, s154_31, s154_32, s154_35, s154_38, s154_39, row1 hR.1, hR.2.1]
    have h5 := hR.2.2.2.2.1
    have h6 := hR.2.2.2.2.2
    by_cases hin : n ≤ i
    · rw [if_pos (nI_le hin (by omega))]
      simp [hashN]
    · rw [if_neg (nI_ge (by omega) (by omega)), if_pos (nI_le (by omega) (by omega))]
      simp [hashN]
  | succ k ih =>
    intro i g hi hg
    have h5 := hR.2.2.2.2.1
    have h6 := hR.2.2.2.2.2
    have h3 := hR.2.2.1
    have hil : i < bs.length := by omega
    rw [s154_5]
    simp only [s154_0, s154_1, s154_2, s154_3, s154_7, s154_8, s154_11, s154_13, s154_14, s154_17, s154_20, s154_21, s154_22, s154_25, s154_27, s154_28, s154_31, s154_32, s154_35, s154_38, s154_39, row0 hR.1, row1 hR.1, hR.2.1]
    rw [if_neg (nI_ge (by omega) (by omega)), if_neg (nI_ge (by omega) (by omega)), rowg hR.1 (by omega) (by omega), hR.get hil]
    have hx : bs.getD i 0 < 256 := by
      rw [List.getD_eq_getElem?_getD, List.getElem?_eq_getElem hil]
      exact hb _ (List.getElem_mem hil)
    simp only [s154_0, s154_1, s154_2, s154_3, s154_7, s154_8, s154_11, s154_13, s154_14, s154_17, s154_20, s154_21, s154_22, s154_25, s154_27, s154_28, s154_31, s154_32, s154_35, s154_38, s154_39, List.length_nil, Nat.reduceLeDiff, Nat.zero_le, c_hashStep hg (show bs.getD i 0 < 65536 by omega), vbind_some, vpush_some, nI_1]
    rw [ih (i + 1) _ (by omega) (hst_lt _ _)]
    rw [List.drop_eq_getElem_cons hil, List.take_succ_cons]
    simp only [hashN, List.foldl_cons, List.getD_eq_getElem?_getD, List.getElem?_eq_getElem hil, Option.getD_some]
theorem c_hashOn {S : vSt} {r a N n g : Nat} {bs : List Nat} (hR : RowIs S r a N bs) (hb : ∀ x ∈ bs, x < 256) (hn : n ≤ 10000) (hg : g < 65521) : callv 154 [.ref r, .int (nI g), .int (nI n)] (hp S) = some (some (.int (nI (hashN g (bs.take n)))), hp S) := by
  show runv 154 0 [some (.ref r), some (.int (nI g)), some (.int (nI n)), none, none] [] (hp S) = _
  simp only [s154_0, s154_1, s154_2, s154_3]
  rw [show (0 : Int32) = nI 0 from rfl, c_hashOn_loop hR hb hn (min n bs.length) 0 g (by omega) hg, List.drop_zero, show bs.take (min n bs.length) = bs.take n from List.take_eq_take_iff.mpr (by omega)]
