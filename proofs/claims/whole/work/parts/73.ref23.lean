/-! the reference: reading, the head -/
def RF (e : Nat) (S S1 : vSt) : Prop := (∀ b j, ¬ (b = 249 ∧ j = 18) → S1.1 b j = S.1 b j) ∧ (∀ b, b ≠ 260 → b ≠ 262 → b ≠ 263 → b ≠ 264 → b ≠ 265 → S1.2 b = S.2 b) ∧ (∀ b, (S1.2 b).length = (S.2 b).length) ∧ (∀ b i, b ≠ 265 → i < e → (S1.2 b).getD i 0 = (S.2 b).getD i 0) ∧ ∀ x, x < 256 * e → (S1.2 265).getD x 0 = (S.2 265).getD x 0
section RFX
variable {S S1 S2 : vSt} {e : Nat}
theorem RF.rf : RF e S S := ⟨fun _ _ _ => rfl, fun _ _ _ _ _ _ => rfl, fun _ => rfl, fun _ _ _ _ => rfl, fun _ _ => rfl⟩
theorem RF.tr (h : RF e S S1) (g : RF e S1 S2) : RF e S S2 := ⟨fun b j q => (g.1 b j q).trans (h.1 b j q), fun b q1 q2 q3 q4 q5 => (g.2.1 b q1 q2 q3 q4 q5).trans (h.2.1 b q1 q2 q3 q4 q5), fun b => (g.2.2.1 b).trans (h.2.2.1 b), fun b i q1 q2 => (g.2.2.2.1 b i q1 q2).trans (h.2.2.2.1 b i q1 q2), fun x q => (g.2.2.2.2 x q).trans (h.2.2.2.2 x q)⟩
theorem RF.le {f : Nat} (h : RF f S S1) (hf : e ≤ f) : RF e S S1 := ⟨h.1, h.2.1, h.2.2.1, fun b i q1 q2 => h.2.2.2.1 b i q1 (by omega), fun x q => h.2.2.2.2 x (by omega)⟩
theorem RF.len (h : RF e S S1) (hL : RLen S) : RLen S1 := hL.of h.2.2.1
theorem RF.seq (h : RF e S S1) {k2 a2 N : Nat} {bs : List Nat} (h1 : k2 ≠ 18 ∧ k2 ≠ 19) (h2 : a2 < 260) (hS : SqIs S k2 a2 N bs) : SqIs S1 k2 a2 N bs := by
  have e2 : S1.2 a2 = S.2 a2 := h.2.1 _ (by omega) (by omega) (by omega) (by omega) (by omega)
  exact ⟨by rw [h.1 _ _ (by omega)]; exact hS.1, by rw [e2]; exact hS.2.1, by rw [e2]; exact hS.2.2.1, hS.2.2.2⟩
theorem RF.f18 {x : Int32} : RF e S (fu S 249 18 x) := ⟨fun b j q => by
  by_cases z : b = 249
  · exact fu_k _ _ (fun w => q ⟨z, w⟩)
  · exact fu_a _ _ z, fun _ _ _ _ _ _ => rfl, fun _ => rfl, fun _ _ _ _ => rfl, fun _ _ => rfl⟩
theorem RF.ar {a : Nat} {x : Int32} (ha : a = 260 ∨ a = 262 ∨ a = 263 ∨ a = 264) : RF e S (au S a ((S.2 a).set e x)) := ⟨fun _ _ _ => rfl, fun b _ _ _ _ _ => au_a _ _ (by omega), fun b => by
  by_cases q : b = a
  · subst q; rw [au_at, List.length_set]
  · rw [au_a _ _ q], fun b i _ hi => by
  by_cases q : b = a
  · subst q; rw [au_at, getD_set_ne (by omega)]
  · rw [au_a _ _ q], fun x _ => by rw [au_a _ _ (by omega)]⟩
theorem RF.by {i : Nat} {x : Int32} (hi : 256 * e ≤ i) : RF e S (au S 265 ((S.2 265).set i x)) := ⟨fun _ _ _ => rfl, fun b _ _ _ _ q => au_a _ _ q, fun b => by
  by_cases q : b = 265
  · subst q; rw [au_at, List.length_set]
  · rw [au_a _ _ q], fun b i q _ => by rw [au_a _ _ q], fun y hy => by rw [au_at, getD_set_ne (by omega)]⟩
end RFX
def lk (bs : List Nat) (p : Nat) : Int32 := if p < bs.length then nI (bs.getD p 0) else -1
section REF23
variable {S : vSt} {bs : List Nat} {p e : Nat}
theorem c_look (hT : SqIs S 1 250 640 bs) (ha : S.1 249 18 = nI p) (hp0 : p ≤ 640) : callv 56 [.ref 249] (hp S) = some (some (.int (lk bs p)), hp S) := by
  have hl := hT.2.2.2
  show runv 56 0 [some (.ref 249)] [] (hp S) = _
  unfold lk
  by_cases h : p < bs.length
  · simp only [s56_0, s56_1, s56_4, s56_5, s56_8, s56_11, s56_12, s56_15, s56_16, s56_19, s56_20, s56_23, s56_24, q18, q1, q0, ha, hT.1, ga rfl hT.2.1 (show p < 640 by omega) (by omega), hT.get h]
    rw [if_neg (nI_ge h (by omega)), if_pos h]
  · simp only [s56_0, s56_1, s56_4, s56_5, s56_8, s56_23, s56_24, q18, q1, ha, hT.1]
    rw [if_pos (nI_le (by omega) (by omega)), if_neg h]
theorem c_on (b : Bool) (ha : S.1 249 18 = nI p) : callv 57 [.ref 249, .int (bI b)] (hp S) = some (some (.int (bI b)), hp (fu S 249 18 (nI (if b = true then p + 1 else p)))) := by
  show runv 57 0 [some (.ref 249), some (.int (bI b))] [] (hp S) = _
  simp only [s57_0, s57_1, s57_2, s57_5, s57_6, s57_9, s57_10, s57_11, s57_14, s57_15, s57_18, s57_21, s57_22, q18, ha, if_bI, q18p, nI_1, bI_and]
  cases b <;> rfl
theorem lk_in (h : p < bs.length) : lk bs p = nI (bs.getD p 0) := if_pos h
theorem lk_out (h : ¬ p < bs.length) : lk bs p = -1 := if_neg h
theorem x_sort {x : Nat} (h : x < 256) : (nI x >>> ((4 : Int32) &&& 31)) &&& 7 = nI (x / 16 % 8) := by
  rw [show (4 : Int32) &&& 31 = 4 by decide, pk_shrN (k := 4) (by omega) 4 (by decide), pk_andN (k := 3) (by omega) (by decide)]
theorem x_low {x : Nat} (h : x < 256) : nI x &&& 15 = nI (x % 16) := pk_andN (k := 4) (by omega) (by decide)
def knB (s : Nat) : Bool := decide ((1 ≤ s ∧ s ≤ 3) ∨ s = 6 ∨ s = 7)
theorem knB_iff {s : Nat} : knB s = true ↔ knownS s := by
  unfold knB knownS
  exact decide_eq_true_iff
theorem knB_t {s : Nat} (h : knownS s) : knB s = true := knB_iff.mpr h
theorem knB_f {s : Nat} (h : ¬ knownS s) : knB s = false := by
  cases e : knB s with
  | false => rfl
  | true => exact absurd (knB_iff.mp e) h
/-- the three cells of a head written -/
def hdSet (S : vSt) (e : Nat) (s n : Int32) (p : Nat) : vSt := au (au (au S 262 ((S.2 262).set e s)) 263 ((S.2 263).set e n)) 260 ((S.2 260).set e (nI p))
theorem hdSet_rf {s n : Int32} : RF e S (hdSet S e s n p) := by
  have a1 : RF e S _ := RF.ar (S := S) (a := 262) (x := s) (by omega)
  have a2 := a1.tr (RF.ar (a := 263) (x := n) (by omega))
  have a3 := a2.tr (RF.ar (a := 260) (x := nI p) (by omega))
  have e1 : (au S 262 ((S.2 262).set e s)).2 263 = S.2 263 := au_a _ _ (by omega)
  rw [e1] at a3
  have e2 : (au (au S 262 ((S.2 262).set e s)) 263 ((S.2 263).set e n)).2 260 = S.2 260 := by rw [au_a _ _ (by omega), au_a _ _ (by omega)]
  rw [e2] at a3
  exact a3
theorem c_rdH_start (hL : RLen S) (hT : SqIs S 1 250 640 bs) (bb : ∀ x ∈ bs, x < 256) (ha : S.1 249 18 = nI p) (hp0 : p ≤ bs.length) (he : e < 16) : ∃ (s n : Nat) (k : Bool), (k = true ↔ p < bs.length ∧ knownS s) ∧ (p < bs.length → s = bs.getD p 0 / 16 % 8 ∧ n = bs.getD p 0 % 16) ∧ s < 8 ∧ n < 16 ∧ callv 58 [.ref 249, .int (nI e)] (hp S) = vbind (callv 57 [.ref 249, .int (bI k)] (hp (hdSet S e (nI s) (nI n) p))) (fun v h' => runv 58 111 [some (.ref 249), some (.int (nI e)), some (.int (lk bs p)), some (.int (nI s)), some (.int (bI (decide (p < bs.length ∧ 128 ≤ bs.getD p 0)))), some (.int (nI n)), some (.int (bI (knB s))), none, none] (vpush v []) h') := by
  have hl := hT.2.2.2
  have tq := qt (S := S)
  have l262 : (S.2 262).length = 16 := hL.2.2.2.2.2.2.2.2.2.2.2.2.1
  have l263 : (S.2 263).length = 16 := hL.2.2.2.2.2.2.2.2.2.2.2.2.2.1
  have l260 : (S.2 260).length = 16 := hL.2.2.2.2.2.2.2.2.2.2.1
  have ck := c_look hT ha (by omega)
  -- the middle, for every sort and rest
  have mid : ∀ (s n : Nat) (b : Int32) (t : Bool), s < 8 → n < 16 → runv 58 40 [some (.ref 249), some (.int (nI e)), some (.int b), some (.int (nI s)), some (.int (bI t)), some (.int (nI n)), none, none, none] [] (hp S) = runv 58 93 [some (.ref 249), some (.int (nI e)), some (.int b), some (.int (nI s)), some (.int (bI t)), some (.int (nI n)), some (.int (bI (knB s))), none, none] [] (hp (hdSet S e (nI s) (nI n) p)) := by
    intro s n b t hs hn
    have w1 := fun (K2 : vH → Option (Option Value × vH)) => gs (S := S) (i := e) (x := nI s) (K2 := K2) (a := 262) rfl l262 he (by omega)
    have w2 := fun (K2 : vH → Option (Option Value × vH)) => gs (S := au S 262 ((S.2 262).set e (nI s))) (i := e) (x := nI n) (K2 := K2) (a := 263) rfl (show ((au S 262 ((S.2 262).set e (nI s))).2 263).length = 16 by rw [au_a _ _ (by omega)]; exact l263) he (by omega)
    have e1 : (au S 262 ((S.2 262).set e (nI s))).2 263 = S.2 263 := au_a _ _ (by omega)
    simp only [e1] at w2
    have e2 : (au (au S 262 ((S.2 262).set e (nI s))) 263 ((S.2 263).set e (nI n))).2 260 = S.2 260 := by rw [au_a _ _ (by omega), au_a _ _ (by omega)]
    have w3 := fun (K2 : vH → Option (Option Value × vH)) => gs (S := au (au S 262 ((S.2 262).set e (nI s))) 263 ((S.2 263).set e (nI n))) (i := e) (x := nI p) (K2 := K2) (a := 260) rfl (show ((au (au S 262 ((S.2 262).set e (nI s))) 263 ((S.2 263).set e (nI n))).2 260).length = 16 by rw [e2]; exact l260) he (by omega)
    simp only [e2] at w3
    have a18 : (au (au S 262 ((S.2 262).set e (nI s))) 263 ((S.2 263).set e (nI n))).1 249 18 = nI p := ha
    have fin : ∀ k : Bool, runv 58 81 [some (.ref 249), some (.int (nI e)), some (.int b), some (.int (nI s)), some (.int (bI t)), some (.int (nI n)), none, none, none] [.int (bI k)] (hp (au (au S 262 ((S.2 262).set e (nI s))) 263 ((S.2 263).set e (nI n)))) = runv 58 93 [some (.ref 249), some (.int (nI e)), some (.int b), some (.int (nI s)), some (.int (bI t)), some (.int (nI n)), some (.int (bI k)), none, none] [] (hp (hdSet S e (nI s) (nI n) p)) := fun k => by
      simp only [s58_81, s58_83, s58_84, s58_87, s58_88, s58_89, s58_92, q15, q18, a18, w3]
      rfl
    have i1 : (1 ≤ nI s ∧ nI s ≤ 3) ↔ (1 ≤ s ∧ s ≤ 3) := ⟨fun q => ⟨(nI_leI (a := 1) (by omega) (by omega)).mp q.1, (nI_leI (b := 3) (by omega) (by omega)).mp q.2⟩, fun q => ⟨(nI_leI (a := 1) (by omega) (by omega)).mpr q.1, (nI_leI (b := 3) (by omega) (by omega)).mpr q.2⟩⟩
    have k6 : (nI s = 6) = (s = 6) := nI_inj (b := 6) (by omega) (by omega)
    have k7 : (nI s = 7) = (s = 7) := nI_inj (b := 7) (by omega) (by omega)
    simp only [s58_40, s58_41, s58_44, s58_45, s58_46, s58_47, s58_48, s58_51, s58_52, s58_54, s58_55, s58_56, s58_57, s58_58, s58_61, s58_64, s58_65, s58_67, s58_70, s58_71, s58_73, s58_76, s58_77, s58_80, q20, q21, w1, w2, List.length_cons, List.length_nil, Nat.reduceAdd, Nat.reduceLeDiff, Nat.zero_le, c_in, vbind_some, vpush_some, if_bI, k6, k7, i1]
    by_cases c1 : 1 ≤ s ∧ s ≤ 3
    · rw [if_pos (decide_eq_true c1)]
      rw [knB_t (show knownS s from Or.inl c1)]
      exact fin true
    · rw [if_neg (by rw [decide_eq_false c1]; decide)]
      by_cases c2 : s = 6
      · rw [if_pos c2, knB_t (show knownS s from Or.inr (Or.inl c2))]
        exact fin true
      · rw [if_neg c2]
        by_cases c3 : s = 7
        · rw [if_pos c3, knB_t (show knownS s from Or.inr (Or.inr c3))]
          exact fin true
        · rw [if_neg c3, knB_f (show ¬ knownS s from fun q => by rcases q with q | q | q; exact c1 q; exact c2 q; exact c3 q)]
          exact fin false
  by_cases h : p < bs.length
  · have hx := getD_lt bb p
    have hs8 : bs.getD p 0 / 16 % 8 < 8 := Nat.mod_lt _ (by omega)
    have hn16 : bs.getD p 0 % 16 < 16 := Nat.mod_lt _ (by omega)
    refine ⟨bs.getD p 0 / 16 % 8, bs.getD p 0 % 16, knB (bs.getD p 0 / 16 % 8), ?_, fun _ => ⟨rfl, rfl⟩, hs8, hn16, ?_⟩
    · rw [knB_iff]
      exact ⟨fun q => ⟨h, q⟩, fun q => q.2⟩
    · rw [lk_in h] at ck ⊢
      have st : callv 58 [.ref 249, .int (nI e)] (hp S) = runv 58 40 [some (.ref 249), some (.int (nI e)), some (.int (nI (bs.getD p 0))), some (.int (nI (bs.getD p 0 / 16 % 8))), some (.int (bI (decide (p < bs.length ∧ 128 ≤ bs.getD p 0)))), some (.int (nI (bs.getD p 0 % 16))), none, none, none] [] (hp S) := by
        show runv 58 0 [some (.ref 249), some (.int (nI e)), none, none, none, none, none, none, none] [] (hp S) = _
        have fin : ∀ t : Bool, runv 58 32 [some (.ref 249), some (.int (nI e)), some (.int (nI (bs.getD p 0))), some (.int (nI (bs.getD p 0 / 16 % 8))), none, none, none, none, none] [.int (bI t)] (hp S) = runv 58 40 [some (.ref 249), some (.int (nI e)), some (.int (nI (bs.getD p 0))), some (.int (nI (bs.getD p 0 / 16 % 8))), some (.int (bI t)), some (.int (nI (bs.getD p 0 % 16))), none, none, none] [] (hp S) := fun t => by
          simp only [s58_32, s58_34, s58_35, s58_37, s58_38, x_low hx]
        simp only [s58_0, s58_1, s58_4, s58_5, s58_6, s58_9, s58_10, s58_13, s58_14, s58_15, s58_16, s58_18, s58_19, s58_20, s58_21, s58_24, s58_27, s58_28, s58_31, List.length_cons, List.length_nil, Nat.reduceAdd, Nat.reduceLeDiff, Nat.zero_le, tq, ck, vbind_some, vpush_some, x_sort hx]
        rw [if_pos (nI_pos' (by omega))]
        by_cases t : bs.getD p 0 < 128
        · rw [if_pos (show nI (bs.getD p 0) < 128 from nI_lt (b := 128) t (by omega)), decide_eq_false (fun q => by omega)]
          exact fin false
        · rw [if_neg (show ¬ nI (bs.getD p 0) < 128 from nI_nlt (b := 128) (by omega) (by omega)), decide_eq_true ⟨h, by omega⟩]
          exact fin true
      rw [st, mid _ _ _ _ hs8 hn16]
      simp only [s58_93, s58_94, s58_95, s58_98, s58_100, s58_103, s58_104, s58_107, s58_108, List.length_cons, List.length_nil, Nat.reduceAdd, Nat.reduceLeDiff, Nat.zero_le, qt, if_bI]
      rw [if_neg (nI_pos (by omega))]
      by_cases k : knownS (bs.getD p 0 / 16 % 8)
      · rw [if_pos (knB_t k), knB_t k]
        rfl
      · rw [if_neg (by rw [knB_f k]; decide), knB_f k]
        rfl
  · refine ⟨0, 15, false, ⟨fun q => absurd q (by decide), fun q => absurd q.1 h⟩, fun q => absurd q h, by omega, by omega, ?_⟩
    rw [lk_out h] at ck ⊢
    have st : callv 58 [.ref 249, .int (nI e)] (hp S) = runv 58 40 [some (.ref 249), some (.int (nI e)), some (.int (-1)), some (.int (nI 0)), some (.int (bI (decide (p < bs.length ∧ 128 ≤ bs.getD p 0)))), some (.int (nI 15)), none, none, none] [] (hp S) := by
      show runv 58 0 [some (.ref 249), some (.int (nI e)), none, none, none, none, none, none, none] [] (hp S) = _
      simp only [s58_0, s58_1, s58_4, s58_5, s58_6, s58_9, s58_10, s58_13, s58_14, s58_15, s58_16, s58_18, s58_19, s58_20, s58_21, s58_24, s58_27, s58_28, s58_31, s58_32, s58_34, s58_35, s58_37, s58_38, List.length_cons, List.length_nil, Nat.reduceAdd, Nat.reduceLeDiff, Nat.zero_le, tq, ck, vbind_some, vpush_some]
      rw [if_neg (show ¬ (0 : Int32) ≤ -1 by decide), if_pos (show (-1 : Int32) < 128 by decide), decide_eq_false (fun q => h q.1)]
      rfl
    rw [st, mid _ _ _ _ (by omega) (by omega)]
    simp only [s58_93, s58_94, s58_95, s58_107, s58_108, List.length_cons, List.length_nil, Nat.reduceAdd, Nat.reduceLeDiff, Nat.zero_le, qt]
    rw [if_pos (show (-1 : Int32) < 0 by decide)]
    rfl
theorem c_rdHead (hL : RLen S) (hT : SqIs S 1 250 640 bs) (bb : ∀ x ∈ bs, x < 256) (ha : S.1 249 18 = nI p) (hp0 : p ≤ bs.length) (hb5 : bs.length ≤ 500) (he : e < 16) : ∃ S1, RF e S S1 ∧ match rdHead bs p with
    | .inl f => callv 58 [.ref 249, .int (nI e)] (hp S) = some (some (.int 0), hp S1) ∧ S1.1 249 18 = nI f
    | .inr (s, z, p1) => callv 58 [.ref 249, .int (nI e)] (hp S) = some (some (.int 1), hp S1) ∧ S1.1 249 18 = nI p1 ∧ (S1.2 260).getD e 0 = nI p ∧ (S1.2 262).getD e 0 = nI s ∧ (S1.2 263).getD e 0 = nI z := by
  obtain ⟨s, n, k, h1, h2, hs8, hn16, st⟩ := c_rdH_start hL hT bb ha hp0 he
  have F0 := hdSet_rf (S := S) (e := e) (s := nI s) (n := nI n) (p := p)
  have a0 : (hdSet S e (nI s) (nI n) p).1 249 18 = nI p := by rw [hdSet, au_1, au_1, au_1]; exact ha
  have l262 : (S.2 262).length = 16 := hL.2.2.2.2.2.2.2.2.2.2.2.2.1
  have l263 : (S.2 263).length = 16 := hL.2.2.2.2.2.2.2.2.2.2.2.2.2.1
  have l260 : (S.2 260).length = 16 := hL.2.2.2.2.2.2.2.2.2.2.1
  rw [c_on k a0] at st
  simp only [vbind_some, vpush_some] at st
  unfold rdHead
  cases k with
  | false =>
    have hno : ¬ (p < bs.length ∧ knownS s) := fun q => by have := h1.mpr q; cases this
    have F1 : RF e S (fu (hdSet S e (nI s) (nI n) p) 249 18 (nI (if false = true then p + 1 else p))) := F0.tr RF.f18
    have g18 : (fu (hdSet S e (nI s) (nI n) p) 249 18 (nI (if false = true then p + 1 else p))).1 249 18 = nI p := by rw [fu_at]; rfl
    have st2 : callv 58 [.ref 249, .int (nI e)] (hp S) = some (some (.int 0), hp (fu (hdSet S e (nI s) (nI n) p) 249 18 (nI (if false = true then p + 1 else p)))) := by
      rw [st]
      simp only [s58_111, s58_114, s58_115, if_bI, vb0]
      rw [if_neg (by decide)]
    refine ⟨_, F1, ?_⟩
    by_cases hp1 : p < bs.length
    · rw [if_pos hp1, if_neg (fun q => hno ⟨hp1, by rw [(h2 hp1).1]; exact q⟩)]
      exact ⟨st2, g18⟩
    · rw [if_neg hp1]
      exact ⟨st2, g18⟩
  | true =>
    obtain ⟨hp1, hkn⟩ := h1.mp rfl
    obtain ⟨e1, e2⟩ := h2 hp1
    have hx := getD_lt bb p
    rw [if_pos hp1, ← e1, if_pos (show (1 ≤ s ∧ s ≤ 3) ∨ s = 6 ∨ s = 7 from hkn), ← e2]
    have ei : (if true = true then p + 1 else p) = p + 1 := rfl
    rw [ei] at st
    have F1 : RF e S (fu (hdSet S e (nI s) (nI n) p) 249 18 (nI (p + 1))) := F0.tr RF.f18
    have L1 := F1.len hL
    have T1 := F1.seq (by omega) (by omega) hT
    have m263 : ∀ z : Int32, RF e (fu (hdSet S e (nI s) (nI n) p) 249 18 (nI (p + 1))) (au (fu (hdSet S e (nI s) (nI n) p) 249 18 (nI (p + 1))) 263 (((fu (hdSet S e (nI s) (nI n) p) 249 18 (nI (p + 1))).2 263).set e z)) := fun z => RF.ar (by omega)
    have l263' : ((fu (hdSet S e (nI s) (nI n) p) 249 18 (nI (p + 1))).2 263).length = 16 := by rw [F1.2.2.1]; exact l263
    have v260 : ((hdSet S e (nI s) (nI n) p).2 260).getD e 0 = nI p := by rw [hdSet, au_at, getD_set_self (by omega)]
    have v262 : ((hdSet S e (nI s) (nI n) p).2 262).getD e 0 = nI s := by rw [hdSet, au_a _ _ (by omega), au_a _ _ (by omega), au_at, getD_set_self (by omega)]
    by_cases ht : bs.getD p 0 < 128
    · rw [if_pos ht]
      refine ⟨_, F1.tr (m263 (nI n)), ?_, ?_, ?_, ?_, ?_⟩
      · rw [st]
        have w := fun (K2 : vH → Option (Option Value × vH)) => gs (S := fu (hdSet S e (nI s) (nI n) p) 249 18 (nI (p + 1))) (i := e) (x := nI n) (K2 := K2) (a := 263) rfl l263' he (by omega)
        have z1 : nI n + 16 * 0 = nI n := by rw [show (16 : Int32) * 0 = nI 0 by decide, nI_add]; rfl
        have g18 : (au (fu (hdSet S e (nI s) (nI n) p) 249 18 (nI (p + 1))) 263 (((fu (hdSet S e (nI s) (nI n) p) 249 18 (nI (p + 1))).2 263).set e (nI n))).1 249 18 = nI (p + 1) := by rw [au_1, fu_at]
        have p18 := fun (K2 : vH → Option (Option Value × vH)) => q18p (S := au (fu (hdSet S e (nI s) (nI n) p) 249 18 (nI (p + 1))) 263 (((fu (hdSet S e (nI s) (nI n) p) 249 18 (nI (p + 1))).2 263).set e (nI n))) (x := nI (p + 1)) (K2 := K2)
        have self18 : fu (au (fu (hdSet S e (nI s) (nI n) p) 249 18 (nI (p + 1))) 263 (((fu (hdSet S e (nI s) (nI n) p) 249 18 (nI (p + 1))).2 263).set e (nI n))) 249 18 (nI (p + 1)) = au (fu (hdSet S e (nI s) (nI n) p) 249 18 (nI (p + 1))) 263 (((fu (hdSet S e (nI s) (nI n) p) 249 18 (nI (p + 1))).2 263).set e (nI n)) := by
          refine Prod.ext ?_ rfl
          funext b j
          by_cases q1 : b = 249
          · by_cases q2 : j = 18
            · subst q1; subst q2; rw [fu_at, g18]
            · rw [fu_k _ _ q2]
          · rw [fu_a _ _ q1]
        have n24 : nI n ≤ 24 := nI_le (b := 24) (by omega) (by omega)
        rw [decide_eq_false (show ¬ (p < bs.length ∧ 128 ≤ bs.getD p 0) from fun q => by omega)]
        simp only [s58_111, s58_114, s58_115, s58_116, s58_118, s58_121, s58_122, s58_125, s58_128, s58_129, s58_131, s58_133, s58_135, s58_137, s58_138, s58_139, s58_141, s58_142, s58_145, s58_146, s58_148, s58_149, s58_151, s58_153, s58_156, s58_157, s58_158, s58_161, s58_162, s58_165, s58_166, s58_168, s58_170, s58_173, s58_174, s58_176, s58_179, s58_180, s58_183, s58_186, s58_187, s58_190, s58_191, s58_192, s58_195, s58_197, if_bI, q21, z1, w, q18, g18, p18, self18, vb1, if_pos n24, if_true, Bool.false_eq_true, if_false]
        try rfl
      · rw [au_1, fu_at]
      · rw [au_a _ _ (by omega), fu_2]; exact v260
      · rw [au_a _ _ (by omega), fu_2]; exact v262
      · rw [au_at, getD_set_self (by omega)]
    · rw [if_neg ht]
      have ck := c_look (p := p + 1) T1 (fu_at _ _ _ _) (by omega)
      rw [decide_eq_true (show p < bs.length ∧ 128 ≤ bs.getD p 0 from ⟨hp1, by omega⟩)] at st
      generalize hS1 : fu (hdSet S e (nI s) (nI n) p) 249 18 (nI (p + 1)) = S1 at st F1 L1 T1 m263 l263' ck
      have a1 : S1.1 249 18 = nI (p + 1) := by rw [← hS1, fu_at]
      have v260' : (S1.2 260).getD e 0 = nI p := by rw [← hS1, fu_2]; exact v260
      have v262' : (S1.2 262).getD e 0 = nI s := by rw [← hS1, fu_2]; exact v262
      have tq1 := qt (S := S1)
      have w := fun (K2 : vH → Option (Option Value × vH)) => gs (S := S1) (i := e) (x := nI n + 16 * lk bs (p + 1)) (K2 := K2) (a := 263) rfl l263' he (by omega)
      have tq2 := qt (S := au S1 263 ((S1.2 263).set e (nI n + 16 * lk bs (p + 1))))
      have a2 : (au S1 263 ((S1.2 263).set e (nI n + 16 * lk bs (p + 1)))).1 249 18 = nI (p + 1) := a1
      have tail : callv 58 [.ref 249, .int (nI e)] (hp S) = some (some (.int (bI (decide (1 ≤ lk bs (p + 1) ∧ lk bs (p + 1) ≤ 15) && (decide (nI n + 16 * lk bs (p + 1) ≤ 24) || decide (¬ nI s ≤ 3))))), hp (fu (au S1 263 ((S1.2 263).set e (nI n + 16 * lk bs (p + 1)))) 249 18 (nI (if (decide (1 ≤ lk bs (p + 1) ∧ lk bs (p + 1) ≤ 15) && (decide (nI n + 16 * lk bs (p + 1) ≤ 24) || decide (¬ nI s ≤ 3))) = true then p + 1 + 1 else p + 1)))) := by
        rw [st]
        have fin1 : ∀ f g : Bool, runv 58 220 [some (.ref 249), some (.int (nI e)), some (.int (lk bs p)), some (.int (nI s)), some (.int (bI true)), some (.int (nI n + 16 * lk bs (p + 1))), some (.int (bI (knB s))), some (.int (lk bs (p + 1))), some (.int (bI f))] [.int (bI g), .ref 249] (hp (au S1 263 ((S1.2 263).set e (nI n + 16 * lk bs (p + 1))))) = some (some (.int (bI g)), hp (fu (au S1 263 ((S1.2 263).set e (nI n + 16 * lk bs (p + 1)))) 249 18 (nI (if g = true then p + 1 + 1 else p + 1)))) := fun f g => by
          simp only [s58_220, s58_223, List.length_cons, List.length_nil, Nat.reduceAdd, Nat.reduceLeDiff, Nat.zero_le, tq2, c_on g a2, vbind_some, vpush_some, bI_and]
        have fin2 : ∀ f : Bool, runv 58 166 [some (.ref 249), some (.int (nI e)), some (.int (lk bs p)), some (.int (nI s)), some (.int (bI true)), some (.int (nI n + 16 * lk bs (p + 1))), some (.int (bI (knB s))), some (.int (lk bs (p + 1))), none] [.int (bI f)] (hp (au S1 263 ((S1.2 263).set e (nI n + 16 * lk bs (p + 1))))) = some (some (.int (bI (decide (1 ≤ lk bs (p + 1) ∧ lk bs (p + 1) ≤ 15) && f))), hp (fu (au S1 263 ((S1.2 263).set e (nI n + 16 * lk bs (p + 1)))) 249 18 (nI (if (decide (1 ≤ lk bs (p + 1) ∧ lk bs (p + 1) ≤ 15) && f) = true then p + 1 + 1 else p + 1)))) := fun f => by
          simp only [s58_166, s58_168, s58_170, s58_198, s58_199, s58_201, s58_202, s58_204, s58_207, s58_210, s58_212, s58_215, s58_216, s58_219, if_bI, List.length_cons, List.length_nil, Nat.reduceAdd, Nat.reduceLeDiff, Nat.zero_le, c_in, vbind_some, vpush_some]
          rw [if_pos trivial]
          by_cases c : 1 ≤ lk bs (p + 1) ∧ lk bs (p + 1) ≤ 15
          · rw [decide_eq_true c, if_pos rfl, Bool.true_and]
            cases f with
            | true => rw [if_pos rfl]; exact fin1 true true
            | false => rw [if_neg (by decide)]; exact fin1 false false
          · rw [decide_eq_false c, if_neg (by decide), Bool.false_and]
            exact fin1 f false
        simp only [s58_111, s58_114, s58_115, s58_116, s58_118, s58_121, s58_122, s58_125, s58_128, s58_129, s58_131, s58_133, s58_135, s58_137, s58_138, s58_139, s58_141, s58_142, s58_145, s58_146, s58_148, s58_149, s58_151, s58_153, s58_156, s58_157, s58_158, s58_161, s58_162, s58_165, if_bI, q21, w, List.length_cons, List.length_nil, Nat.reduceAdd, Nat.reduceLeDiff, Nat.zero_le, tq1, ck, vbind_some, vpush_some]
        rw [if_pos trivial]
        by_cases c : nI n + 16 * lk bs (p + 1) ≤ 24
        · rw [if_pos c, decide_eq_true c, Bool.true_or]
          exact fin2 true
        · rw [if_neg c, decide_eq_false c, Bool.false_or]
          by_cases d : nI s ≤ 3
          · rw [if_pos d, decide_eq_false (show ¬ ¬ nI s ≤ 3 from fun q => q d)]
            exact fin2 false
          · rw [if_neg d, decide_eq_true (show ¬ nI s ≤ 3 from d)]
            exact fin2 true
      have F2 : RF e S (fu (au S1 263 ((S1.2 263).set e (nI n + 16 * lk bs (p + 1)))) 249 18 (nI (if (decide (1 ≤ lk bs (p + 1) ∧ lk bs (p + 1) ≤ 15) && (decide (nI n + 16 * lk bs (p + 1) ≤ 24) || decide (¬ nI s ≤ 3))) = true then p + 1 + 1 else p + 1))) := (F1.tr (m263 _)).tr RF.f18
      refine ⟨_, F2, ?_⟩
      by_cases hp2 : p + 1 < bs.length
      · have hy := getD_lt bb (p + 1)
        have e16 : nI n + 16 * nI (bs.getD (p + 1) 0) = nI (n + 16 * bs.getD (p + 1) 0) := by rw [show (16 : Int32) * nI (bs.getD (p + 1) 0) = nI (16 * bs.getD (p + 1) 0) from pk_mul 16 _, nI_add]
        have iy : (1 ≤ nI (bs.getD (p + 1) 0) ∧ nI (bs.getD (p + 1) 0) ≤ 15) ↔ (1 ≤ bs.getD (p + 1) 0 ∧ bs.getD (p + 1) 0 ≤ 15) := ⟨fun q => ⟨(nI_leI (a := 1) (by omega) (by omega)).mp q.1, (nI_leI (b := 15) (by omega) (by omega)).mp q.2⟩, fun q => ⟨(nI_leI (a := 1) (by omega) (by omega)).mpr q.1, (nI_leI (b := 15) (by omega) (by omega)).mpr q.2⟩⟩
        have in_ : (nI (n + 16 * bs.getD (p + 1) 0) ≤ 24) ↔ (n + 16 * bs.getD (p + 1) 0 ≤ 24) := nI_leI (b := 24) (by omega) (by omega)
        have is_ : (nI s ≤ 3) ↔ (s ≤ 3) := nI_leI (b := 3) (by omega) (by omega)
        rw [lk_in hp2, e16] at tail ⊢
        have hd1 : decide (1 ≤ nI (bs.getD (p + 1) 0) ∧ nI (bs.getD (p + 1) 0) ≤ 15) = decide (1 ≤ bs.getD (p + 1) 0 ∧ bs.getD (p + 1) 0 ≤ 15) := decide_eq_decide.mpr iy
        have hd2 : (decide (nI (n + 16 * bs.getD (p + 1) 0) ≤ 24) || decide (¬ nI s ≤ 3)) = decide (¬ (s ≤ 3 ∧ 24 < n + 16 * bs.getD (p + 1) 0)) := by
          rw [decide_eq_decide.mpr in_, decide_eq_decide.mpr (not_congr is_)]
          by_cases u1 : n + 16 * bs.getD (p + 1) 0 ≤ 24
          · rw [decide_eq_true u1, decide_eq_true (show ¬ (s ≤ 3 ∧ 24 < n + 16 * bs.getD (p + 1) 0) by omega), Bool.true_or]
          · rw [decide_eq_false u1, Bool.false_or]
            by_cases u2 : s ≤ 3
            · rw [decide_eq_false (show ¬ ¬ s ≤ 3 from fun q => q u2), decide_eq_false (show ¬ ¬ (s ≤ 3 ∧ 24 < n + 16 * bs.getD (p + 1) 0) from fun q => q ⟨u2, by omega⟩)]
            · rw [decide_eq_true (show ¬ s ≤ 3 from u2), decide_eq_true (show ¬ (s ≤ 3 ∧ 24 < n + 16 * bs.getD (p + 1) 0) from fun q => u2 q.1)]
        rw [hd1, hd2] at tail ⊢
        by_cases u1 : 1 ≤ bs.getD (p + 1) 0 ∧ bs.getD (p + 1) 0 ≤ 15
        · rw [if_pos ⟨hp2, u1⟩]
          rw [decide_eq_true u1, Bool.true_and] at tail ⊢
          by_cases u2 : s ≤ 3 ∧ 24 < n + 16 * bs.getD (p + 1) 0
          · rw [if_pos u2]
            rw [decide_eq_false (show ¬ ¬ (s ≤ 3 ∧ 24 < n + 16 * bs.getD (p + 1) 0) from fun q => q u2)] at tail ⊢
            exact ⟨tail, fu_at _ _ _ _⟩
          · rw [if_neg u2]
            rw [decide_eq_true (show ¬ (s ≤ 3 ∧ 24 < n + 16 * bs.getD (p + 1) 0) from u2)] at tail ⊢
            refine ⟨tail, fu_at _ _ _ _, ?_, ?_, ?_⟩
            · rw [fu_2, au_a _ _ (by omega)]; exact v260'
            · rw [fu_2, au_a _ _ (by omega)]; exact v262'
            · rw [fu_2, au_at, getD_set_self (by omega)]
        · rw [if_neg (fun q => u1 q.2)]
          rw [decide_eq_false u1, Bool.false_and] at tail ⊢
          exact ⟨tail, fu_at _ _ _ _⟩
      · rw [if_neg (fun q => hp2 q.1)]
        rw [lk_out hp2, decide_eq_false (show ¬ ((1 : Int32) ≤ -1 ∧ (-1 : Int32) ≤ 15) by decide), Bool.false_and] at tail ⊢
        exact ⟨tail, fu_at _ _ _ _⟩
end REF23
