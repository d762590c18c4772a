/-! the reference: takeWhole, baseOf -/
def RW (S : vSt) (ws : Wk) : Prop := ∀ (i : Nat) (w : Option Obj), ws[i]? = some w → (S.2 266).getD i 0 = bI w.isSome ∧ ∀ o, w = some o → SltIs S (40 + i) o
/-- only what is worked out differs -/
def KF (S S1 : vSt) : Prop := S1.1 = S.1 ∧ (∀ b, b ≠ 252 → b ≠ 253 → b ≠ 254 → b ≠ 266 → S1.2 b = S.2 b) ∧ (∀ q, q < 40 → (S1.2 252).getD q 0 = (S.2 252).getD q 0 ∧ (S1.2 253).getD q 0 = (S.2 253).getD q 0) ∧ (∀ q, q < 960 → (S1.2 254).getD q 0 = (S.2 254).getD q 0) ∧ ∀ b, (S1.2 b).length = (S.2 b).length
section KFX
variable {S S1 S2 : vSt}
theorem KF.rf : KF S S := ⟨rfl, fun _ _ _ _ _ => rfl, fun _ _ => ⟨rfl, rfl⟩, fun _ _ => rfl, fun _ => rfl⟩
theorem KF.tr (h : KF S S1) (g : KF S1 S2) : KF S S2 := ⟨g.1.trans h.1, fun b q1 q2 q3 q4 => (g.2.1 b q1 q2 q3 q4).trans (h.2.1 b q1 q2 q3 q4), fun q hq => ⟨(g.2.2.1 q hq).1.trans (h.2.2.1 q hq).1, (g.2.2.1 q hq).2.trans (h.2.2.1 q hq).2⟩, fun q hq => (g.2.2.2.1 q hq).trans (h.2.2.2.1 q hq), fun b => (g.2.2.2.2 b).trans (h.2.2.2.2 b)⟩
theorem SC.k {t : Nat} (h : SC t S S1) (ht : 40 ≤ t) : KF S S1 := ⟨h.1.1, fun b q1 q2 q3 _ => h.1.2.1 b q1 q2 q3, fun q hq => h.1.2.2.1 q (by omega), fun q hq => h.1.2.2.2 q (by omega), h.2⟩
theorem KF.dn {i : Nat} {x : Int32} : KF S (au S 266 ((S.2 266).set i x)) := ⟨rfl, fun b _ _ _ q => au_a _ _ q, fun q _ => ⟨by rw [au_a _ _ (by omega)], by rw [au_a _ _ (by omega)]⟩, fun q _ => by rw [au_a _ _ (by omega)], fun b => by
  by_cases q : b = 266
  · subst q; rw [au_at, List.length_set]
  · rw [au_a _ _ q]⟩
theorem KF.len (h : KF S S1) (hL : RLen S) : RLen S1 := hL.of h.2.2.2.2
theorem KF.side (h : KF S S1) {s : Nat} {l : List Obj} (hS : SideIs S s l) : SideIs S1 s l := by
  have hc : cap0 s ≤ 24 ∧ st0 s ≤ 16 ∧ st0 s + cap0 s ≤ 40 := by unfold cap0 st0; split <;> omega
  have hle := hS.2.2.1
  refine ⟨hS.1, by rw [h.2.1 _ (by omega) (by omega) (by omega) (by omega)]; exact hS.2.1, hS.2.2.1, fun i o ho => ?_⟩
  have hi := (List.getElem?_eq_some_iff.mp ho).1
  obtain ⟨h1, h2, h3, h4, h5⟩ := hS.2.2.2 i o ho
  refine ⟨h1, by rw [(h.2.2.1 _ (by omega)).1]; exact h2, by rw [(h.2.2.1 _ (by omega)).2]; exact h3, fun j hj => ?_, h5⟩
  have := h5.1
  rw [h.2.2.2.1 _ (by omega)]
  exact h4 j hj
theorem KF.mod (h : KF S S1) {m : Mst} (hM : ModIs S m) : ModIs S1 m ∧ Agr S S1 0 249 := by
  obtain ⟨h1, h2, h3, h4, h5, h6, h7, h8, h9, h10, h11, h12⟩ := hM
  have n2 : ∀ a, a ≠ 252 → a ≠ 253 → a ≠ 254 → a ≠ 266 → S1.2 a = S.2 a := h.2.1
  refine ⟨⟨h.len h1, ⟨by rw [h.1]; exact h2.1, by rw [n2 _ (by omega) (by omega) (by omega) (by omega)]; exact h2.2.1, by rw [n2 _ (by omega) (by omega) (by omega) (by omega)]; exact h2.2.2.1, h2.2.2.2⟩, h3, h4, h.side h5, h.side h6, by rw [n2 _ (by omega) (by omega) (by omega) (by omega)]; exact h7, fun i hi => by rw [n2 _ (by omega) (by omega) (by omega) (by omega)]; exact h8 i hi, by rw [h.1]; exact h9, by rw [h.1]; exact h10, h11, by rw [n2 _ (by omega) (by omega) (by omega) (by omega)]; exact h12⟩, fun b _ hb => ⟨fun j => by rw [h.1], n2 b (by omega) (by omega) (by omega) (by omega)⟩⟩
theorem KF.ent (h : KF S S1) {i : Nat} {en : Ent} (hE : REnt S i en) : REnt S1 i en := by
  obtain ⟨h1, h2, h3, h4, h5⟩ := hE
  have n2 : ∀ a, a ≠ 252 → a ≠ 253 → a ≠ 254 → a ≠ 266 → S1.2 a = S.2 a := h.2.1
  exact ⟨by rw [n2 _ (by omega) (by omega) (by omega) (by omega)]; exact h1, by rw [n2 _ (by omega) (by omega) (by omega) (by omega)]; exact h2, by rw [n2 _ (by omega) (by omega) (by omega) (by omega)]; exact h3, fun q => by rw [n2 _ (by omega) (by omega) (by omega) (by omega)]; exact h4 q, fun j hj => by rw [n2 _ (by omega) (by omega) (by omega) (by omega)]; exact h5 j hj⟩
theorem KF.ents (h : KF S S1) {es : List Ent} (hE : REnts S es) : REnts S1 es := fun i en hi => ⟨h.ent (hE i en hi).1, (hE i en hi).2⟩
end KFX
section REF29
variable {S : vSt} {e : Nat}
theorem c_tw_loop {D : List Nat} (he : e < 16) (hD : D.length ≤ 24) : ∀ n k S, k + n = D.length → RLen S → EB S e D → (S.2 263).getD e 0 = nI D.length → SB S (40 + e) (D.take k) → ∃ S1, runv 64 32 [some (.ref 249), some (.int (nI e)), some (.int (nI k))] [] (hp S) = some (none, hp S1) ∧ SB S1 (40 + e) D ∧ SC (40 + e) S S1 ∧ S1.2 252 = S.2 252 ∧ S1.2 253 = S.2 253 := by
  intro n
  induction n with
  | zero =>
    intro k S hk hL hE hz hS
    have l263 : (S.2 263).length = 16 := hL.2.2.2.2.2.2.2.2.2.2.2.2.2.1
    rw [List.take_of_length_le (by omega)] at hS
    refine ⟨S, ?_, hS, SC.rf, rfl, rfl⟩
    have rz := fun (K : Value → Option (Option Value × vH)) => ga (S := S) (i := e) (K := K) (a := 263) rfl l263 he (by omega)
    rw [s64_32]
    simp only [s64_33, s64_34, s64_37, s64_38, s64_39, s64_74, q21, rz, hz]
    rw [if_pos (nI_le (by omega) (by omega))]
  | succ n ih =>
    intro k S hk hL hE hz hS
    have l263 : (S.2 263).length = 16 := hL.2.2.2.2.2.2.2.2.2.2.2.2.2.1
    have l254 : (S.2 254).length = 1368 := hL.2.2.2.2.1
    have l265 : (S.2 265).length = 4096 := hL.2.2.2.2.2.2.2.2.2.2.2.2.2.2.2.1
    have tl : (D.take k).length = k := by rw [List.length_take]; omega
    have S1 := hS.push (x := D.getD k 0) (by rw [tl, l254]; omega)
    rw [tl] at S1
    have e1 : D.take k ++ [D.getD k 0] = D.take (k + 1) := by
      rw [List.take_succ, List.getElem?_eq_getElem (show k < D.length by omega), List.getD_eq_getElem?_getD, List.getElem?_eq_getElem (show k < D.length by omega)]
      rfl
    rw [e1] at S1
    have F1 : SC (40 + e) S _ := SC.by (S := S) (t := 40 + e) (i := 24 * (40 + e) + k) (x := nI (D.getD k 0)) (by omega) (by omega)
    obtain ⟨S2, g1, g2, g3, g4, g5⟩ := ih (k + 1) _ (by omega) (F1.len hL) (hE.sc F1) (by rw [au_a _ _ (by omega)]; exact hz) S1
    refine ⟨S2, ?_, g2, F1.tr g3, by rw [g4, au_a _ _ (by omega)], by rw [g5, au_a _ _ (by omega)]⟩
    have rz := fun (K : Value → Option (Option Value × vH)) => ga (S := S) (i := e) (K := K) (a := 263) rfl l263 he (by omega)
    have r := fun (K : Value → Option (Option Value × vH)) => ga (S := S) (i := 256 * e + k) (K := K) (a := 265) rfl l265 (by omega) (by omega)
    have hr := hE k (by omega)
    have w := fun (x : Int32) (K2 : vH → Option (Option Value × vH)) => gs (S := S) (i := 24 * (40 + e) + k) (x := x) (K2 := K2) (a := 254) rfl l254 (by omega) (by omega)
    have i40 : (40 : Int32) + nI e = nI (40 + e) := nI_add 40 e
    have i256 : (256 : Int32) * nI e = nI (256 * e) := pk_mul 256 e
    rw [← g1, s64_32]
    simp only [s64_33, s64_34, s64_37, s64_38, s64_39, s64_42, s64_43, s64_46, s64_48, s64_50, s64_51, s64_52, s64_53, s64_54, s64_55, s64_56, s64_59, s64_62, s64_63, s64_64, s64_65, s64_66, s64_67, s64_68, s64_71, q21, q5, q23, rz, hz, i40, i256, x24, nI_add, r, hr, w, nI_1]
    rw [if_neg (nI_ge (by omega) (by omega))]
theorem c_takeW {en : Ent} (he : e < 16) (hL : RLen S) (hE : REnt S e en) (hk : EntOk e en) (h3 : en.2.1 ≤ 3) : ∃ S1, callv 64 [.ref 249, .int (nI e)] (hp S) = some (none, hp S1) ∧ SltIs S1 (40 + e) (en.2.1, en.2.2.2.2) ∧ SC (40 + e) S S1 := by
  obtain ⟨e1, e2, e3, e4, e5⟩ := hE
  obtain ⟨k1, k2, k3, k4, k5, k6, k7, k8⟩ := hk
  have k4 := k4 h3
  have l262 : (S.2 262).length = 16 := hL.2.2.2.2.2.2.2.2.2.2.2.2.1
  have l263 : (S.2 263).length = 16 := hL.2.2.2.2.2.2.2.2.2.2.2.2.2.1
  have l252 : (S.2 252).length = 57 := hL.2.2.1
  have l253 : (S.2 253).length = 57 := hL.2.2.2.1
  have F1 : SC (40 + e) S _ := SC.kd (S := S) (t := 40 + e) (a := 252) (x := nI en.2.1) (by omega)
  have F2 := F1.tr (SC.kd (t := 40 + e) (a := 253) (x := nI en.2.2.1) (by omega))
  have e253 : (au S 252 ((S.2 252).set (40 + e) (nI en.2.1))).2 253 = S.2 253 := au_a _ _ (by omega)
  rw [e253] at F2
  have hz : ((au (au S 252 ((S.2 252).set (40 + e) (nI en.2.1))) 253 ((S.2 253).set (40 + e) (nI en.2.2.1))).2 263).getD e 0 = nI en.2.2.2.2.length := by rw [au_a _ _ (by omega), au_a _ _ (by omega), k3]; exact e3
  obtain ⟨S1, g1, g2, g3, g4, g5⟩ := c_tw_loop (D := en.2.2.2.2) he (by omega) en.2.2.2.2.length 0 _ (by omega) (F2.len hL) (e5.sc F2) hz (fun j hj => by simp at hj)
  have kn : 1 ≤ en.2.1 := by
    rcases k2 with q | q | q <;> omega
  refine ⟨S1, ?_, ⟨by omega, ?_, ?_, g2, by show en.2.2.2.2.length ≤ 24; omega, k6, kn, h3⟩, F2.tr g3⟩
  · rw [← g1]
    have i40 : (40 : Int32) + nI e = nI (40 + e) := nI_add 40 e
    have r1 := fun (K : Value → Option (Option Value × vH)) => ga (S := S) (i := e) (K := K) (a := 262) rfl l262 he (by omega)
    have w1 := fun (x : Int32) (K2 : vH → Option (Option Value × vH)) => gs (S := S) (i := 40 + e) (x := x) (K2 := K2) (a := 252) rfl l252 (by omega) (by omega)
    have r2 := fun (K : Value → Option (Option Value × vH)) => ga (S := au S 252 ((S.2 252).set (40 + e) (nI en.2.1))) (i := e) (K := K) (a := 263) rfl (by rw [au_a _ _ (by omega)]; exact l263) he (by omega)
    have e3' : ((au S 252 ((S.2 252).set (40 + e) (nI en.2.1))).2 263).getD e 0 = nI en.2.2.1 := by rw [au_a _ _ (by omega)]; exact e3
    have w2 := fun (x : Int32) (K2 : vH → Option (Option Value × vH)) => gs (S := au S 252 ((S.2 252).set (40 + e) (nI en.2.1))) (i := 40 + e) (x := x) (K2 := K2) (a := 253) rfl (by rw [e253]; exact l253) (show 40 + e < 57 by omega) (by omega)
    simp only [e253] at w2
    show runv 64 0 [some (.ref 249), some (.int (nI e)), none] [] (hp S) = _
    simp only [s64_0, s64_1, s64_4, s64_6, s64_7, s64_8, s64_9, s64_12, s64_13, s64_14, s64_15, s64_16, s64_19, s64_21, s64_22, s64_23, s64_24, s64_27, s64_28, s64_29, s64_30, s64_31, q3, q4, q20, q21, i40, r1, e2, w1, r2, e3', w2]
    rfl
  · rw [g4, au_a _ _ (by omega), au_at, getD_set_self (by omega)]
  · rw [g5, au_at, getD_set_self (by omega)]
    show nI en.2.2.1 = nI en.2.2.2.2.length
    rw [k3]
theorem rIdx_snoc {ws : Wk} {b k : Nat} (hk : k < ws.length) : rIdx (ws.take (k + 1)) b = match rIdx (ws.take k) b with
    | some i => some i
    | none => match ws[k] with
      | some o => if oid o.1 o.2 = b then some k else none
      | none => none := by
  have e : ws.take (k + 1) = ws.take k ++ [ws[k]] := by rw [List.take_succ, List.getElem?_eq_getElem hk]; rfl
  have tl : (ws.take k).length = k := by rw [List.length_take]; omega
  unfold rIdx
  rw [e, List.findIdx?_append, tl]
  cases List.findIdx? (fun w => match w with | some o => decide (oid o.1 o.2 = b) | none => false) (ws.take k) with
  | some i => rfl
  | none =>
    cases hw : ws[k] with
    | none => rfl
    | some o =>
      simp only [List.findIdx?_cons, List.findIdx?_nil]
      by_cases c : oid o.1 o.2 = b
      · simp [c]
      · simp [c]
theorem c_bo_loop {ws : Wk} {b : Nat} (he : e < 16) (hb : b < 65536) (hL : RLen S) (hW : RW S ws) (h16 : ws.length ≤ 16) (hbe : (S.2 264).getD e 0 = nI b) : ∀ k (acc : Int32), k ≤ ws.length → ∃ v3, runv 63 58 [some (.ref 249), some (.int (nI e)), some (.int acc), some (.int (nI k - 1))] [] (hp S) = runv 63 103 [some (.ref 249), some (.int (nI e)), some (.int (match rIdx (ws.take k) b with | some i => nI (40 + i) | none => acc)), v3] [] (hp S) := by
  have l264 : (S.2 264).length = 16 := hL.2.2.2.2.2.2.2.2.2.2.2.2.2.2.1
  have l266 : (S.2 266).length = 16 := hL.2.2.2.2.2.2.2.2.2.2.2.2.2.2.2.2
  have tq := qt (S := S)
  intro k
  induction k with
  | zero =>
    intro acc hk
    refine ⟨some (.int (nI 0 - 1)), ?_⟩
    rw [s63_58]
    simp only [s63_59]
    rw [if_pos (by decide)]
    rfl
  | succ k ih =>
    intro acc hk
    have hkl : k < ws.length := by omega
    obtain ⟨d1, d2⟩ := hW k _ (List.getElem?_eq_getElem hkl)
    have r := fun (K : Value → Option (Option Value × vH)) => gb (S := S) (i := k) (K := K) (a := 266) rfl l266 (show k < 16 by omega) (by omega)
    have rb := fun (K : Value → Option (Option Value × vH)) => ga (S := S) (i := e) (K := K) (a := 264) rfl l264 he (by omega)
    have i40 : (40 : Int32) + nI k = nI (40 + k) := nI_add 40 k
    have nx : ∀ a : Int32, runv 63 96 [some (.ref 249), some (.int (nI e)), some (.int acc), some (.int (nI (k + 1) - 1))] [.int a] (hp S) = runv 63 58 [some (.ref 249), some (.int (nI e)), some (.int a), some (.int (nI k - 1))] [] (hp S) := fun a => by
      simp only [s63_96, s63_97, s63_100, nI_pred]
      rw [Int32.sub_eq_add_neg]
    rw [rIdx_snoc hkl, s63_58]
    cases hw : ws[k] with
    | none =>
      rw [hw] at d1
      obtain ⟨v3, g⟩ := ih acc (by omega)
      refine ⟨v3, ?_⟩
      have nx' := nx acc
      rw [nI_pred] at nx'
      simp only [s63_59, s63_62, s63_63, s63_66, s63_67, s63_68, s63_71, s63_72, s63_74, s63_75, s63_76, s63_79, s63_80, s63_83, s63_84, s63_85, s63_88, s63_90, s63_91, s63_92, s63_95, nI_pred, q24, r, d1, Option.isSome_none, if_bI]
      rw [if_neg (nI_pos (by omega)), if_neg (by decide), nx', g]
      cases rIdx (ws.take k) b <;> rfl
    | some o =>
      rw [hw] at d1
      have hsl := d2 o hw
      have ho := oid_lt o.1 o.2
      have hid := c_idOf hL hsl
      have kk : (nI (oid o.1 o.2) = nI b) = (oid o.1 o.2 = b) := nI_inj (by omega) (by omega)
      have st : runv 63 59 [some (.ref 249), some (.int (nI e)), some (.int acc), some (.int (nI (k + 1) - 1))] [.int (nI (k + 1) - 1)] (hp S) = if oid o.1 o.2 = b then runv 63 96 [some (.ref 249), some (.int (nI e)), some (.int acc), some (.int (nI (k + 1) - 1))] [.int (nI (40 + k))] (hp S) else runv 63 96 [some (.ref 249), some (.int (nI e)), some (.int acc), some (.int (nI (k + 1) - 1))] [.int acc] (hp S) := by
        simp only [s63_59, s63_62, s63_63, s63_66, s63_67, s63_68, s63_71, s63_72, s63_74, s63_75, s63_76, s63_79, s63_80, s63_83, s63_84, s63_85, s63_88, s63_90, s63_91, s63_92, s63_95, nI_pred, q24, q22, r, rb, hbe, d1, Option.isSome_some, if_bI, i40, List.length_cons, List.length_nil, Nat.reduceAdd, Nat.reduceLeDiff, Nat.zero_le, tq, hid, vbind_some, vpush_some, kk]
        rw [if_neg (nI_pos (by omega)), if_pos trivial]
      rw [st]
      by_cases c : oid o.1 o.2 = b
      · rw [if_pos c, nx]
        obtain ⟨v3, g⟩ := ih (nI (40 + k)) (by omega)
        refine ⟨v3, ?_⟩
        rw [g]
        simp only [if_pos c]
        cases rIdx (ws.take k) b <;> rfl
      · rw [if_neg c, nx]
        obtain ⟨v3, g⟩ := ih acc (by omega)
        refine ⟨v3, ?_⟩
        rw [g]
        simp only [if_neg c]
        cases rIdx (ws.take k) b <;> rfl
theorem c_rbaseOf {es : List Ent} {ws : Wk} {cs : List Obj} {en : Ent} (he : e < 16) (hL : RLen S) (hE : REnt S e en) (hk : EntOk e en) (h3 : 3 < en.2.1) (hW : RW S ws) (hwl : ws.length = es.length) (hel : e < es.length) (h16 : es.length ≤ 16) (hn : S.1 249 19 = nI es.length) (hC : SideIs S 1 cs) (hu : Uniq cs) (hno : ws[e]? = some none) : match bsOf cs ws en with
    | some o => ∃ b : Nat, callv 63 [.ref 249, .int (nI e)] (hp S) = some (some (.int (nI b)), hp S) ∧ SltIs S b o ∧ b < 57 ∧ b ≠ 40 + e
    | none => callv 63 [.ref 249, .int (nI e)] (hp S) = some (some (.int (-1)), hp S) := by
  obtain ⟨e1, e2, e3, e4, e5⟩ := hE
  obtain ⟨k1, k2, k3, k4, k5, k6, k7, k8⟩ := hk
  have hbe := e4 h3
  have l262 : (S.2 262).length = 16 := hL.2.2.2.2.2.2.2.2.2.2.2.2.1
  have l264 : (S.2 264).length = 16 := hL.2.2.2.2.2.2.2.2.2.2.2.2.2.2.1
  have l266 : (S.2 266).length = 16 := hL.2.2.2.2.2.2.2.2.2.2.2.2.2.2.2.2
  have tq := qt (S := S)
  have r1 := fun (K : Value → Option (Option Value × vH)) => ga (S := S) (i := e) (K := K) (a := 262) rfl l262 he (by omega)
  have rb := fun (K : Value → Option (Option Value × vH)) => ga (S := S) (i := e) (K := K) (a := 264) rfl l264 he (by omega)
  have s8 : en.2.1 < 8 := by rcases k2 with q | q | q <;> omega
  have k6' : (nI en.2.1 = 6) = (en.2.1 = 6) := nI_inj (b := 6) (by omega) (by omega)
  unfold bsOf
  by_cases c6 : en.2.1 = 6
  · rw [if_pos c6]
    have hb := k7 c6
    have hbl : en.2.2.2.1 < ws.length := by omega
    obtain ⟨d1, d2⟩ := hW _ _ (List.getElem?_eq_getElem hbl)
    have r := fun (K : Value → Option (Option Value × vH)) => gb (S := S) (i := en.2.2.2.1) (K := K) (a := 266) rfl l266 (show en.2.2.2.1 < 16 by omega) (by omega)
    have i40 : (40 : Int32) + nI en.2.2.2.1 = nI (40 + en.2.2.2.1) := nI_add 40 _
    have st : callv 63 [.ref 249, .int (nI e)] (hp S) = if (ws[en.2.2.2.1]).isSome = true then some (some (.int (nI (40 + en.2.2.2.1))), hp S) else some (some (.int (-1)), hp S) := by
      show runv 63 0 [some (.ref 249), some (.int (nI e)), none, none] [] (hp S) = _
      simp only [s63_0, s63_1, s63_4, s63_5, s63_6, s63_8, s63_11, s63_12, s63_15, s63_16, s63_19, s63_20, s63_21, s63_22, s63_25, s63_27, s63_28, s63_31, s63_32, s63_33, s63_34, s63_37, s63_38, q20, q24, q22, r1, e2, k6', rb, hbe, r, d1, if_bI, i40]
      rw [if_pos c6]
    rw [List.getElem?_eq_getElem hbl]
    cases hw : ws[en.2.2.2.1] with
    | none =>
      rw [hw] at st
      simp only [Option.join_some]
      exact st
    | some o =>
      rw [hw] at st
      simp only [Option.join_some]
      exact ⟨40 + en.2.2.2.1, st, d2 o hw, by omega, by omega⟩
  · rw [if_neg c6]
    have ef := c_rfind hL hC hu (nI en.2.2.2.1)
    have n1 : (nI 1 : Int32) = 1 := rfl
    rw [n1] at ef
    obtain ⟨v3, lp⟩ := c_bo_loop (b := en.2.2.2.1) he k8 hL hW (by omega) hbe es.length (oJ (st0 1) (fIdx cs (nI en.2.2.2.1))) (by omega)
    rw [List.take_of_length_le (by omega)] at lp
    have st : callv 63 [.ref 249, .int (nI e)] (hp S) = some (some (.int (match rIdx ws en.2.2.2.1 with | some i => nI (40 + i) | none => oJ (st0 1) (fIdx cs (nI en.2.2.2.1)))), hp S) := by
      have st1 : callv 63 [.ref 249, .int (nI e)] (hp S) = runv 63 58 [some (.ref 249), some (.int (nI e)), some (.int (oJ (st0 1) (fIdx cs (nI en.2.2.2.1)))), some (.int (nI es.length - 1))] [] (hp S) := by
        show runv 63 0 [some (.ref 249), some (.int (nI e)), none, none] [] (hp S) = _
        simp only [s63_0, s63_1, s63_4, s63_5, s63_6, s63_8, s63_39, s63_40, s63_41, s63_42, s63_45, s63_46, s63_47, s63_50, s63_51, s63_52, s63_55, s63_56, s63_57, q20, q22, q19, r1, e2, k6', rb, hbe, hn, List.length_cons, List.length_nil, Nat.reduceAdd, Nat.reduceLeDiff, Nat.zero_le, tq, ef, vbind_some, vpush_some]
        rw [if_neg c6]
      rw [st1, lp]
      simp only [s63_103, s63_104]
    cases hr : rIdx ws en.2.2.2.1 with
    | some i =>
      obtain ⟨o, w1, w2⟩ := rIdx_some hr
      rw [hr] at st
      simp only [w1, Option.join_some]
      have hil := (List.getElem?_eq_some_iff.mp w1).1
      refine ⟨40 + i, st, (hW i _ w1).2 o rfl, by omega, fun q => ?_⟩
      have : i = e := by omega
      subst this
      rw [hno] at w1
      cases w1
    | none =>
      rw [hr] at st
      simp only at st ⊢
      have hcl := hC.2.2.1
      have hc1 : cap0 1 = 24 := rfl
      cases hf : fIdx cs (nI en.2.2.2.1) with
      | none =>
        rw [hf] at st
        exact st
      | some j =>
        rw [hf] at st
        have hj := fIdx_lt hf
        simp only [List.getElem?_eq_getElem hj]
        have hst1 : st0 1 = 16 := rfl
        exact ⟨st0 1 + j, st, hC.2.2.2 j _ (List.getElem?_eq_getElem hj), by omega, by omega⟩
end REF29
