/-! the reference: serve -/
def MFr (S S1 : vSt) : Prop := (∀ b j, ¬ (b = 249 ∧ (j = 1 ∨ j = 16)) → S1.1 b j = S.1 b j) ∧ (∀ b, b ≠ 250 → b ≠ 260 → b ≠ 261 → S1.2 b = S.2 b) ∧ ∀ b, (S1.2 b).length = (S.2 b).length
section MFR
variable {S S1 S2 : vSt}
theorem MFr.rf : MFr S S := ⟨fun _ _ _ => rfl, fun _ _ _ _ => rfl, fun _ => rfl⟩
theorem MFr.tr (h : MFr S S1) (g : MFr S1 S2) : MFr S S2 := ⟨fun b j q => (g.1 b j q).trans (h.1 b j q), fun b q r t => (g.2.1 b q r t).trans (h.2.1 b q r t), fun b => (g.2.2 b).trans (h.2.2 b)⟩
theorem WFr.m (h : WFr S S1) : MFr S S1 := ⟨h.1, fun b q _ t => h.2.1 b q t, h.2.2⟩
theorem MFr.len (h : MFr S S1) (hL : RLen S) : RLen S1 := hL.of h.2.2
theorem MFr.side (h : MFr S S1) {s : Nat} {l : List Obj} (hS : SideIs S s l) : SideIs S1 s l := hS.of (h.2.1 _ (by omega) (by omega) (by omega)) (h.2.1 _ (by omega) (by omega) (by omega)) (h.2.1 _ (by omega) (by omega) (by omega)) (h.2.1 _ (by omega) (by omega) (by omega))
theorem MFr.seq (h : MFr S S1) {k2 a2 N : Nat} {bs : List Nat} (h1 : k2 ≠ 1 ∧ k2 ≠ 16) (h2 : a2 ≠ 250 ∧ a2 ≠ 260 ∧ a2 ≠ 261) (hS : SqIs S k2 a2 N bs) : SqIs S1 k2 a2 N bs := ⟨by rw [h.1 _ _ (by omega)]; exact hS.1, by rw [h.2.1 _ h2.1 h2.2.1 h2.2.2]; exact hS.2.1, by rw [h.2.1 _ h2.1 h2.2.1 h2.2.2]; exact hS.2.2.1, hS.2.2.2⟩
end MFR
section REF21
variable {os : List Obj} {pk hd ob : List Nat}
def SrP (S : vSt) (os : List Obj) (pk hd ob : List Nat) : Prop := RLen S ∧ SideIs S 0 os ∧ SqIs S 13 259 16 pk ∧ (∀ p ∈ pk, p < os.length) ∧ HdIs S hd ∧ (S.2 250).take ob.length = ob.map nI ∧ ob.length ≤ 640
theorem SrP.size {S : vSt} (h : SrP S os pk hd ob) : SrvIs (fu S 249 1 (nI ob.length)) os pk hd ob := by
  obtain ⟨h1, h2, h3, h4, h5, h6, h7⟩ := h
  exact ⟨h1, h2, ⟨by rw [fu_k _ _ (by omega)]; exact h3.1, h3.2⟩, h4, h5, fu_at _ _ _ _, h1.1, h6, h7⟩
theorem SrvIs.p {S : vSt} (h : SrvIs S os pk hd ob) : SrP S os pk hd ob := ⟨h.1, h.2.1, h.2.2.1, h.2.2.2.1, h.2.2.2.2.1, h.2.2.2.2.2.2.2.1, h.2.2.2.2.2.2.2.2⟩
theorem SrP.aft {S S1 : vSt} {E : List Nat} (h : SrP S os pk hd ob) (hF : WFr S S1) (hT : SqIs S1 1 250 640 (ob ++ E)) : SrP S1 os pk hd ob := by
  obtain ⟨h1, h2, h3, h4, h5, h6, h7⟩ := h
  refine ⟨hF.len h1, hF.side h2, hF.seq (by omega) (by omega) h3, h4, ⟨by rw [hF.2.1 _ (by omega) (by omega)]; exact h5.1, by rw [hF.2.1 _ (by omega) (by omega)]; exact h5.2.1, h5.2.2⟩, ?_, h7⟩
  have e := congrArg (List.take ob.length) hT.2.2.1
  rw [List.take_take, List.length_append, Nat.min_eq_left (by omega), List.map_append, List.take_left' (by simp)] at e
  exact e
theorem WFr.f1 {S : vSt} {x : Int32} : WFr S (fu S 249 1 x) := (Ch.fu (k := 1) (a := 250) (S := S) (x := x)).wb
/-- which entry the best base stands for -/
def EntOf (os : List Obj) (pk hd : List Nat) (i L : Nat) (best : Int32) (cur : List Nat) : Prop := (best = -1 ∧ cur = wholeE (oAt os (pk.getD i 0))) ∨ ∃ b, b < i ∧ best = nI b ∧ cur = backE (oAt os (pk.getD b 0)).2 (oAt os (pk.getD i 0)).2 (L - hd.getD b 0)
theorem c_srv_in {i : Nat} (hi : i < pk.length) (hhl : hd.length = i + 1) (hhi : hd.getD i 0 = ob.length) (hmono : ∀ b, b < i → hd.getD b 0 ≤ ob.length) (hob : ob.length ≤ 500) : ∀ j cur best S, j ≤ i → cur.length ≤ 27 → SrP S os pk hd ob → EntOf os pk hd i ob.length best cur → ∃ S1 best' v3 v4, runv 55 119 [some (.ref 249), some (.int (nI i)), some (.int best), some (.int (nI (ob.length + cur.length))), some (.int (nI j - 1))] [] (hp S) = runv 55 205 [some (.ref 249), some (.int (nI i)), some (.int best'), v3, v4] [] (hp S1) ∧ SrP S1 os pk hd ob ∧ WFr S S1 ∧ EntOf os pk hd i ob.length best' (bestF os pk hd (oAt os (pk.getD i 0)) ob.length j cur) := by
  intro j
  induction j with
  | zero =>
    intro cur best S hj hcl h hE
    refine ⟨S, best, some (.int (nI (ob.length + cur.length))), some (.int (nI 0 - 1)), ?_, h, WFr.rf, hE⟩
    rw [s55_119]
    simp only [s55_121]
    rw [if_pos (by decide)]
  | succ j ih =>
    intro cur best S hj hcl h hE
    have hV := h.size
    have h0 := h
    obtain ⟨h1, h2, h3, h4, h5, h6, h7⟩ := h
    have h16 := h3.2.2.2
    have p1 := h4 _ (pk_at hi)
    have p2 := h4 _ (pk_at (show j < pk.length by omega))
    have hc := h2.2.2.1
    have hc0 : cap0 0 = 16 := rfl
    have sl1 := h2.at p1
    have sl2 := h2.at p2
    have tq1 := qt (S := fu S 249 1 (nI ob.length))
    have kk : (nI (oAt os (pk.getD j 0)).1 = nI (oAt os (pk.getD i 0)).1) = ((oAt os (pk.getD j 0)).1 = (oAt os (pk.getD i 0)).1) := nI_inj (by have := sl2.2.2.2.2.2.2.2; omega) (by have := sl1.2.2.2.2.2.2.2; omega)
    have hgi := h5.get (i := i) (by omega)
    rw [hhi] at hgi
    obtain ⟨g1, g2, g3, g4, g5, g6⟩ := hV
    have k1 := g2.at p1
    have k2 := g2.at p2
    have nx : ∀ (S1 : vSt) (b2 l2 : Int32), runv 55 199 [some (.ref 249), some (.int (nI i)), some (.int b2), some (.int l2), some (.int (nI (j + 1) - 1))] [] (hp S1) = runv 55 119 [some (.ref 249), some (.int (nI i)), some (.int b2), some (.int l2), some (.int (nI j - 1))] [] (hp S1) := fun S1 b2 l2 => by
      simp only [s55_199, s55_202, nI_pred]
      rw [Int32.sub_eq_add_neg]
    have st : runv 55 119 [some (.ref 249), some (.int (nI i)), some (.int best), some (.int (nI (ob.length + cur.length))), some (.int (nI (j + 1) - 1))] [] (hp S) = if (oAt os (pk.getD j 0)).1 = (oAt os (pk.getD i 0)).1 then runv 55 160 [some (.ref 249), some (.int (nI i)), some (.int best), some (.int (nI (ob.length + cur.length))), some (.int (nI (j + 1) - 1))] [] (hp (fu S 249 1 (nI ob.length))) else runv 55 199 [some (.ref 249), some (.int (nI i)), some (.int best), some (.int (nI (ob.length + cur.length))), some (.int (nI (j + 1) - 1))] [] (hp (fu S 249 1 (nI ob.length))) := by
      rw [s55_119]
      simp only [s55_121, s55_124, s55_125, s55_126, s55_129, s55_130, s55_131, s55_134, s55_135, s55_138, s55_139, s55_142, s55_144, s55_145, s55_146, s55_147, s55_150, s55_151, s55_154, s55_155, s55_156, s55_157, nI_pred, q15, ga rfl h5.1 (show i < 16 by omega) (by omega), hgi, q1p, q3, q14, ga rfl g3.2.1 (show i < 16 by omega) (by omega), ga rfl g3.2.1 (show j < 16 by omega) (by omega), g3.get hi, g3.get (show j < pk.length by omega), g252 g1 k1.1, g252 g1 k2.1, k1.2.1, k2.2.1, kk]
      rw [if_neg (nI_pos (by omega))]
    rw [st]
    unfold bestF
    by_cases hk : (oAt os (pk.getD j 0)).1 = (oAt os (pk.getD i 0)).1
    · rw [if_pos hk]
      obtain ⟨S1, c1, c2, c3⟩ := c_eBack ⟨g1, g2, g3, g4, g5, g6⟩ hi (show j < hd.length by omega) (by omega) (hmono j (by omega)) (by omega)
      have F1 : WFr S S1 := WFr.f1.tr c3
      have P1 := h0.aft F1 c2
      have bl := backE_len (B := (oAt os (pk.getD j 0)).2) (C := (oAt os (pk.getD i 0)).2) (back := ob.length - hd.getD j 0) sl1.2.2.2.2.1
      have e1 : S1.1 249 1 = nI (ob.length + (backE (oAt os (pk.getD j 0)).2 (oAt os (pk.getD i 0)).2 (ob.length - hd.getD j 0)).length) := by rw [c2.1, List.length_append]
      by_cases hlt : (backE (oAt os (pk.getD j 0)).2 (oAt os (pk.getD i 0)).2 (ob.length - hd.getD j 0)).length < cur.length
      · rw [if_pos ⟨hk, hlt⟩]
        obtain ⟨S2, best', v3, v4, d1, d2, d3, d4⟩ := ih (backE (oAt os (pk.getD j 0)).2 (oAt os (pk.getD i 0)).2 (ob.length - hd.getD j 0)) (nI j) S1 (by omega) (by omega) P1 (Or.inr ⟨j, by omega, rfl, rfl⟩)
        refine ⟨S2, best', v3, v4, ?_, d2, F1.tr d3, d4⟩
        rw [← d1, ← nx]
        have n1 : ¬ nI (ob.length + cur.length) ≤ nI (ob.length + (backE (oAt os (pk.getD j 0)).2 (oAt os (pk.getD i 0)).2 (ob.length - hd.getD j 0)).length) := nI_ge (by omega) (by omega)
        simp only [s55_160, s55_161, s55_162, s55_164, s55_167, s55_168, s55_171, s55_172, s55_175, s55_177, s55_180, s55_181, s55_182, s55_183, s55_186, s55_187, s55_190, s55_191, s55_194, s55_197, s55_198, nI_pred, q1, e1, if_neg n1, List.length_cons, List.length_nil, Nat.reduceAdd, Nat.reduceLeDiff, Nat.zero_le, tq1, c1, vbind_some, vpush_none]
      · rw [if_neg (fun z => hlt z.2)]
        obtain ⟨S2, best', v3, v4, d1, d2, d3, d4⟩ := ih cur best S1 (by omega) hcl P1 hE
        refine ⟨S2, best', v3, v4, ?_, d2, F1.tr d3, d4⟩
        rw [← d1, ← nx]
        have n1 : nI (ob.length + cur.length) ≤ nI (ob.length + (backE (oAt os (pk.getD j 0)).2 (oAt os (pk.getD i 0)).2 (ob.length - hd.getD j 0)).length) := nI_le (by omega) (by omega)
        simp only [s55_160, s55_161, s55_162, s55_164, s55_167, s55_168, s55_171, s55_172, s55_175, s55_177, s55_180, s55_181, s55_182, s55_183, s55_186, s55_187, s55_190, s55_191, s55_194, s55_197, s55_198, nI_pred, q1, e1, if_pos n1, List.length_cons, List.length_nil, Nat.reduceAdd, Nat.reduceLeDiff, Nat.zero_le, tq1, c1, vbind_some, vpush_none]
    · rw [if_neg hk, if_neg (fun z => hk z.1), nx]
      have P1 : SrP (fu S 249 1 (nI ob.length)) os pk hd ob := SrvIs.p ⟨g1, g2, g3, g4, g5, g6⟩
      obtain ⟨S2, best', v3, v4, d1, d2, d3, d4⟩ := ih cur best _ (by omega) hcl P1 hE
      exact ⟨S2, best', v3, v4, d1, d2, WFr.f1.tr d3, d4⟩
theorem c_srv_loop (hos : OsOk os) : ∀ n hd ob S v2 v3 v4, hd.length + n = pk.length → SrvIs S os pk hd ob → (∀ x ∈ hd, x ≤ ob.length) → ob.length + 27 * n ≤ 450 → ∃ S1 v1' v2' v3' v4', runv 55 83 [some (.ref 249), some (.int (nI hd.length)), v2, v3, v4] [] (hp S) = runv 55 227 [some (.ref 249), v1', v2', v3', v4'] [] (hp S1) ∧ SqIs S1 1 250 640 (wrF os pk n hd ob) ∧ MFr S S1 := by
  intro n
  induction n with
  | zero =>
    intro hd ob S v2 v3 v4 hn h hmono hob
    obtain ⟨h1, h2, h3, h4, h5, h6⟩ := h
    have h16 := h3.2.2.2
    refine ⟨S, some (.int (nI hd.length)), v2, v3, v4, ?_, h6, MFr.rf⟩
    rw [s55_83]
    simp only [s55_84, s55_85, s55_88, q13, h3.1]
    rw [if_pos (nI_le (by omega) (by omega))]
  | succ n ih =>
    intro hd ob S v2 v3 v4 hn h hmono hob
    have h0 := h
    obtain ⟨h1, h2, h3, h4, h5, h6⟩ := h
    have h16 := h3.2.2.2
    have hi : hd.length < pk.length := by omega
    -- the head's place
    have Fa : MFr S (au S 260 ((S.2 260).set hd.length (nI ob.length))) := ⟨fun _ _ _ => rfl, fun b _ q _ => au_a _ _ q, fun b => by
      by_cases q : b = 260
      · subst q; rw [au_at, List.length_set]
      · rw [au_a _ _ q]⟩
    have Ha : HdIs (au S 260 ((S.2 260).set hd.length (nI ob.length))) (hd ++ [ob.length]) := by
      refine ⟨by rw [au_at, List.length_set]; exact h5.1, ?_, by rw [List.length_append, List.length_singleton]; omega⟩
      have e := set_app (l := S.2 260) (m := hd.map nI) (n := hd.length) (v := nI ob.length) h5.2.1 (by rw [h5.1]; omega)
      rw [au_at, e]
      rw [List.take_left' (by simp)]
      simp
    have Va : SrvIs (au S 260 ((S.2 260).set hd.length (nI ob.length))) os pk (hd ++ [ob.length]) ob := by
      refine ⟨Fa.len h1, Fa.side h2, Fa.seq (by omega) (by omega) h3, h4, Ha, ⟨h6.1, by rw [au_a _ _ (by omega)]; exact h6.2.1, by rw [au_a _ _ (by omega)]; exact h6.2.2.1, h6.2.2.2⟩⟩
    have hw := wholeE_ok (o := oAt os (pk.getD hd.length 0)) (oAt_ok hos _)
    obtain ⟨S1, c1, c2, c3⟩ := c_eWhole Va hi (by omega)
    have P1 := Va.p.aft c3 c2
    have hhi : (hd ++ [ob.length]).getD hd.length 0 = ob.length := by
      rw [List.getD_eq_getElem?_getD, List.getElem?_append_right (Nat.le_refl _), Nat.sub_self]
      rfl
    have hmn : ∀ b, b < hd.length → (hd ++ [ob.length]).getD b 0 ≤ ob.length := by
      intro b hb
      rw [List.getD_eq_getElem?_getD, List.getElem?_append_left hb, List.getElem?_eq_getElem hb]
      exact hmono _ (List.getElem_mem hb)
    obtain ⟨S2, best', v3', v4', d1, d2, d3, d4⟩ := c_srv_in (os := os) (pk := pk) (hd := hd ++ [ob.length]) (ob := ob) hi (by rw [List.length_append, List.length_singleton]) hhi hmn (by omega) hd.length (wholeE (oAt os (pk.getD hd.length 0))) (-1) S1 (Nat.le_refl _) hw.1 P1 (Or.inl ⟨rfl, rfl⟩)
    have V2 := d2.size
    have bl := bestF_len os pk (hd ++ [ob.length]) (oAt os (pk.getD hd.length 0)) ob.length hd.length (wholeE (oAt os (pk.getD hd.length 0)))
    -- the best one is written
    have fin : ∃ S3, callv 51 [.ref 249, .int (nI hd.length), .int best'] (hp (fu S2 249 1 (nI ob.length))) = some (none, hp S3) ∧ SqIs S3 1 250 640 (ob ++ bestF os pk (hd ++ [ob.length]) (oAt os (pk.getD hd.length 0)) ob.length hd.length (wholeE (oAt os (pk.getD hd.length 0)))) ∧ WFr (fu S2 249 1 (nI ob.length)) S3 := by
      rcases d4 with ⟨e1, e2⟩ | ⟨b, e0, e1, e2⟩
      · rw [e1, e2]
        exact c_eWhole V2 hi (by omega)
      · rw [e1, e2]
        exact c_eBack V2 hi (by rw [List.length_append]; omega) (by omega) (hmn b e0) (by omega)
    obtain ⟨S3, f1, f2, f3⟩ := fin
    have Fz : MFr S S3 := Fa.tr ((c3.tr (d3.tr (WFr.f1.tr f3))).m)
    have Fw : MFr (au S 260 ((S.2 260).set hd.length (nI ob.length))) S3 := (c3.tr (d3.tr (WFr.f1.tr f3))).m
    have Ww : WFr (au S 260 ((S.2 260).set hd.length (nI ob.length))) S3 := c3.tr (d3.tr (WFr.f1.tr f3))
    have V3 : SrvIs S3 os pk (hd ++ [ob.length]) (ob ++ bestF os pk (hd ++ [ob.length]) (oAt os (pk.getD hd.length 0)) ob.length hd.length (wholeE (oAt os (pk.getD hd.length 0)))) := ⟨Fz.len h1, Fz.side h2, Fz.seq (by omega) (by omega) h3, h4, ⟨by rw [Ww.2.1 _ (by omega) (by omega)]; exact Ha.1, by rw [Ww.2.1 _ (by omega) (by omega)]; exact Ha.2.1, Ha.2.2⟩, f2⟩
    obtain ⟨S4, w1, w2, w3, w4, k1, k2, k3⟩ := ih (hd ++ [ob.length]) _ S3 (some (.int best')) v3' v4' (by rw [List.length_append, List.length_singleton]; omega) V3 (fun x hx => by
      rw [List.length_append]
      rcases List.mem_append.mp hx with q | q
      · have := hmono x q; omega
      · rw [List.mem_singleton.mp q]; omega) (by rw [List.length_append]; omega)
    rw [show (hd ++ [ob.length]).length = hd.length + 1 by rw [List.length_append]; rfl] at k1
    refine ⟨S4, w1, w2, w3, w4, ?_, k2, Fz.tr k3⟩
    rw [← k1]
    have tqa := qt (S := au S 260 ((S.2 260).set hd.length (nI ob.length)))
    have tqz := qt (S := fu S2 249 1 (nI ob.length))
    have e1 : S1.1 249 1 = nI (ob.length + (wholeE (oAt os (pk.getD hd.length 0))).length) := by rw [c2.1, List.length_append]
    have h2i := d2.2.2.2.2.1.get (i := hd.length) (by rw [List.length_append, List.length_singleton]; omega)
    rw [hhi] at h2i
    have w260 := fun (K2 : vH → Option (Option Value × vH)) => gs (S := S) (i := hd.length) (x := nI ob.length) (K2 := K2) (a := 260) rfl h5.1 (show hd.length < 16 by omega) (by omega)
    have r260 := fun (K : Value → Option (Option Value × vH)) => ga (S := S2) (i := hd.length) (K := K) (a := 260) rfl d2.2.2.2.2.1.1 (show hd.length < 16 by omega) (by omega)
    rw [s55_83]
    simp only [s55_84, s55_85, s55_88, s55_91, s55_92, s55_95, s55_96, s55_97, s55_100, s55_101, s55_102, s55_103, s55_104, s55_107, s55_108, s55_109, s55_110, s55_113, s55_114, s55_115, s55_116, s55_117, q13, h3.1, q15, q1, h6.1, w260, List.length_cons, List.length_nil, Nat.reduceAdd, Nat.reduceLeDiff, Nat.zero_le, tqa, c1, vbind_some, vpush_none, e1]
    rw [if_neg (nI_ge hi (by omega)), d1]
    simp only [s55_205, s55_206, s55_207, s55_210, s55_211, s55_212, s55_215, s55_216, s55_217, s55_218, s55_221, s55_224, q15, r260, h2i, q1p, List.length_cons, List.length_nil, Nat.reduceAdd, Nat.reduceLeDiff, Nat.zero_le, tqz, f1, vbind_some, vpush_none, nI_1]
end REF21
