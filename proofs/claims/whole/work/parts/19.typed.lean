/-! the heap once all is made: references stand still (the list sk), numbers are a state S: fields S.1 cell field, arrays S.2 cell -/
abbrev vSt : Type := (Nat → Nat → Int32) × (Nat → List Int32)
def fu (S : vSt) (a k : Nat) (x : Int32) : vSt := (fun b j => if b = a ∧ j = k then x else S.1 b j, S.2)
def au (S : vSt) (a : Nat) (l : List Int32) : vSt := (S.1, fun b => if b = a then l else S.2 b)
theorem fu_at (S : vSt) (a k : Nat) (x : Int32) : (fu S a k x).1 a k = x := by simp [fu]
theorem fu_k (S : vSt) {a k b j : Nat} (x : Int32) (h : j ≠ k) : (fu S a k x).1 b j = S.1 b j := by simp [fu, h]
theorem fu_a (S : vSt) {a k b j : Nat} (x : Int32) (h : b ≠ a) : (fu S a k x).1 b j = S.1 b j := by simp [fu, h]
theorem fu_2 (S : vSt) (a k : Nat) (x : Int32) : (fu S a k x).2 = S.2 := rfl
theorem au_1 (S : vSt) (a : Nat) (l : List Int32) : (au S a l).1 = S.1 := rfl
theorem au_at (S : vSt) (a : Nat) (l : List Int32) : (au S a l).2 a = l := by simp [au]
theorem au_a (S : vSt) {a b : Nat} (l : List Int32) (h : b ≠ a) : (au S a l).2 b = S.2 b := by simp [au, h]
def vfill (S : vSt) (a : Nat) : List (Option Nat) → Nat → List Value
  | [], _ => []
  | some r :: t, k => .ref r :: vfill S a t (k + 1)
  | none :: t, k => .int (S.1 a k) :: vfill S a t (k + 1)
def varrQ (t : Nat) : Bool := t == 100 || t == 101 || t == 104
def vcellS (S : vSt) (a : Nat) (c : Nat × List (Option Nat)) : vC := if varrQ c.1 = true then (c.1, (S.2 a).map Value.int) else (c.1, vfill S a c.2 0)
def hpL (S : vSt) : List (Nat × List (Option Nat)) → Nat → vH
  | [], _ => []
  | c :: t, a => vcellS S a c :: hpL S t (a + 1)
def hp (S : vSt) : vH := hpL S sk 0
theorem hpL_get (S : vSt) (l : List (Nat × List (Option Nat))) (b a : Nat) : (hpL S l b)[a]? = (l[a]?).map (vcellS S (b + a)) := by
  induction l generalizing b a with
  | nil => simp [hpL]
  | cons c t ih =>
    cases a with
    | zero => simp [hpL]
    | succ a =>
      simp only [hpL, List.getElem?_cons_succ, ih]
      rw [show b + 1 + a = b + (a + 1) by omega]
theorem hp_get (S : vSt) (a : Nat) : (hp S)[a]? = (sk[a]?).map (vcellS S a) := by
  unfold hp
  rw [hpL_get, Nat.zero_add]
theorem hp_set {S S1 : vSt} {a : Nat} {c : Nat × List (Option Nat)} (ha : sk[a]? = some c) (h : ∀ b d, b ≠ a → vcellS S1 b d = vcellS S b d) : (hp S).set a (vcellS S1 a c) = hp S1 := by
  apply List.ext_getElem?
  intro i
  have hlt : a < (hp S).length := by
    have : (hp S)[a]? = some (vcellS S a c) := by rw [hp_get, ha]; rfl
    exact (List.getElem?_eq_some_iff.mp this).1
  by_cases hi : a = i
  · subst hi
    rw [List.getElem?_set_self hlt, hp_get, ha]
    rfl
  · rw [List.getElem?_set_ne hi, hp_get, hp_get]
    cases hd : sk[i]? with
    | none => rfl
    | some d =>
      show some (vcellS S i d) = some (vcellS S1 i d)
      rw [h i d (fun e => hi e.symm)]
theorem vfill_get (S : vSt) (a : Nat) (tm : List (Option Nat)) (b k : Nat) : (vfill S a tm b)[k]? = (tm[k]?).map fun o => match o with
    | some r => Value.ref r
    | none => .int (S.1 a (b + k)) := by
  induction tm generalizing b k with
  | nil => simp [vfill]
  | cons o t ih =>
    cases k with
    | zero => cases o <;> simp [vfill]
    | succ k =>
      have e : b + 1 + k = b + (k + 1) := by omega
      cases o <;> simp only [vfill, List.getElem?_cons_succ, ih, e]
theorem vfill_ne (S S1 : vSt) (a : Nat) (tm : List (Option Nat)) (b : Nat) (h : ∀ k, S1.1 a k = S.1 a k) : vfill S1 a tm b = vfill S a tm b := by
  induction tm generalizing b with
  | nil => rfl
  | cons o t ih => cases o <;> simp only [vfill, ih, h]
theorem vfill_len (S : vSt) (a : Nat) (tm : List (Option Nat)) (b : Nat) : (vfill S a tm b).length = tm.length := by
  induction tm generalizing b with
  | nil => rfl
  | cons o t ih => cases o <;> simp only [vfill, List.length_cons, ih]
theorem vfill_set (S : vSt) (a : Nat) (tm : List (Option Nat)) (k : Nat) (x : Int32) (hk : tm[k]? = some none) : (vfill S a tm 0).set k (.int x) = vfill (fu S a k x) a tm 0 := by
  apply List.ext_getElem?
  intro i
  have hlt : k < (vfill S a tm 0).length := by rw [vfill_len]; exact (List.getElem?_eq_some_iff.mp hk).1
  by_cases hi : k = i
  · subst hi
    rw [List.getElem?_set_self hlt, vfill_get, hk]
    simp [fu_at]
  · rw [List.getElem?_set_ne hi, vfill_get, vfill_get]
    congr 1
    funext o
    cases o with
    | some r => rfl
    | none => simp only; rw [fu_k S x (by omega)]
/-- reads of fields -/
theorem vgf_ref {S : vSt} {a t k r : Nat} {tm : List (Option Nat)} {K : Value → Option (Option Value × vH)} (ha : sk[a]? = some (t, tm)) (hq : varrQ t = false) (hk : tm[k]? = some (some r)) : vgf (hp S) a t k K = K (.ref r) := by
  simp [vgf, hp_get, ha, vcellS, hq, vfill_get, hk]
theorem vgf_int {S : vSt} {a t k : Nat} {tm : List (Option Nat)} {K : Value → Option (Option Value × vH)} (ha : sk[a]? = some (t, tm)) (hq : varrQ t = false) (hk : tm[k]? = some none) : vgf (hp S) a t k K = K (.int (S.1 a k)) := by
  simp [vgf, hp_get, ha, vcellS, hq, vfill_get, hk]
theorem vpf_int {S : vSt} {a t k : Nat} {x : Int32} {tm : List (Option Nat)} {K : vH → Option (Option Value × vH)} (ha : sk[a]? = some (t, tm)) (hq : varrQ t = false) (hk : tm[k]? = some none) (hf : vfit t k (.int x) = true) : vpf (hp S) a t k (.int x) K = K (hp (fu S a k x)) := by
  have hkl : k < tm.length := (List.getElem?_eq_some_iff.mp hk).1
  have e : vcellS (fu S a k x) a (t, tm) = (t, (vfill S a tm 0).set k (.int x)) := by
    rw [vfill_set S a tm k x hk]
    simp [vcellS, hq]
  have e2 : (hp S).set a (t, (vfill S a tm 0).set k (.int x)) = hp (fu S a k x) := by
    rw [← e]
    refine hp_set ha fun b d hb => ?_
    unfold vcellS
    split
    · rfl
    · rw [vfill_ne S (fu S a k x) b d.2 0 (fun j => fu_a S x hb)]
  simp only [vpf, hp_get, ha, Option.map_some, vcellS, hq, Bool.false_eq_true, if_false, vfill_len, hkl, hf, and_self, if_true]
  rw [e2]
/-- arrays of numbers -/
theorem vld2_int {S : vSt} {a t : Nat} {i : Int32} {ok : Nat → Bool} {tm : List (Option Nat)} {K : Value → Option (Option Value × vH)} (ha : sk[a]? = some (t, tm)) (hq : varrQ t = true) (hok : ok t = true) (hi : ¬ i < 0) (hl : i.toNatClampNeg < (S.2 a).length) : vld2 (hp S) a ok i K = K (.int ((S.2 a).getD i.toNatClampNeg 0)) := by
  simp only [vld2, hp_get, ha, Option.map_some, vcellS, hq, if_true, hok, hi, not_false_eq_true, and_self, List.getElem?_map, List.getElem?_eq_getElem hl, List.getD_eq_getElem?_getD, Option.getD_some]
theorem vst2_int {S : vSt} {a t : Nat} {i x : Int32} {tm : List (Option Nat)} {K : vH → Option (Option Value × vH)} (ha : sk[a]? = some (t, tm)) (hq : varrQ t = true) (hi : ¬ i < 0) (hl : i.toNatClampNeg < (S.2 a).length) : vst2 (hp S) a t i (.int x) K = K (hp (au S a ((S.2 a).set i.toNatClampNeg x))) := by
  have e : vcellS (au S a ((S.2 a).set i.toNatClampNeg x)) a (t, tm) = (t, ((S.2 a).map Value.int).set i.toNatClampNeg (.int x)) := by
    simp only [vcellS, hq, if_true, au_at]
    rw [List.map_set]
  have e2 : (hp S).set a (t, ((S.2 a).map Value.int).set i.toNatClampNeg (.int x)) = hp (au S a ((S.2 a).set i.toNatClampNeg x)) := by
    rw [← e]
    refine hp_set ha fun b d hb => ?_
    unfold vcellS
    split
    · rw [au_a S _ hb]
    · rw [vfill_ne S _ b d.2 0 (fun j => by rw [au_1])]
  simp only [vst2, hp_get, ha, Option.map_some, vcellS, hq, if_true, List.length_map, hi, hl, not_false_eq_true, and_self]
  rw [e2]
theorem vlen2_int {S : vSt} {a t : Nat} {tm : List (Option Nat)} {K : Value → Option (Option Value × vH)} (ha : sk[a]? = some (t, tm)) (hq : varrQ t = true) : vlen2 (hp S) a K = K (.int (Int32.ofNat (S.2 a).length)) := by
  have ht : 100 ≤ t ∧ t ≤ 104 := by
    unfold varrQ at hq
    simp only [Bool.or_eq_true, beq_iff_eq] at hq
    omega
  simp only [vlen2, hp_get, ha, Option.map_some, vcellS, hq, if_true, List.length_map, ht, and_self]
/-- arrays of references -/
theorem vld2_ref {S : vSt} {a t r : Nat} {i : Int32} {ok : Nat → Bool} {tm : List (Option Nat)} {K : Value → Option (Option Value × vH)} (ha : sk[a]? = some (t, tm)) (hq : varrQ t = false) (hok : ok t = true) (hi : ¬ i < 0) (hr : tm[i.toNatClampNeg]? = some (some r)) : vld2 (hp S) a ok i K = K (.ref r) := by
  simp [vld2, hp_get, ha, vcellS, hq, hok, hi, vfill_get, hr]
theorem vlen2_ref {S : vSt} {a t : Nat} {tm : List (Option Nat)} {K : Value → Option (Option Value × vH)} (ha : sk[a]? = some (t, tm)) (hq : varrQ t = false) (ht : 100 ≤ t ∧ t ≤ 104) : vlen2 (hp S) a K = K (.int (Int32.ofNat tm.length)) := by
  simp only [vlen2, hp_get, ha, Option.map_some, vcellS, hq, Bool.false_eq_true, if_false, vfill_len, ht, and_self, if_true]
theorem vcp2_int {S : vSt} {s0 d : Nat} {sp dp n : Int32} {tm tn : List (Option Nat)} {K : vH → Option (Option Value × vH)} (hs : sk[s0]? = some (100, tm)) (hd : sk[d]? = some (100, tn)) (h1 : ¬ sp < 0) (h2 : ¬ dp < 0) (h3 : ¬ n < 0) (h4 : sp.toNatClampNeg + n.toNatClampNeg ≤ (S.2 s0).length) (h5 : dp.toNatClampNeg + n.toNatClampNeg ≤ (S.2 d).length) :
    vcp2 (hp S) s0 d sp dp n K = K (hp (au S d ((S.2 d).take dp.toNatClampNeg ++ ((S.2 s0).drop sp.toNatClampNeg).take n.toNatClampNeg ++ (S.2 d).drop (dp.toNatClampNeg + n.toNatClampNeg)))) := by
  generalize hz : (S.2 d).take dp.toNatClampNeg ++ ((S.2 s0).drop sp.toNatClampNeg).take n.toNatClampNeg ++ (S.2 d).drop (dp.toNatClampNeg + n.toNatClampNeg) = z
  have e : vcellS (au S d z) d (100, tn) = (100, vcpy ((S.2 s0).map Value.int) ((S.2 d).map Value.int) sp.toNatClampNeg dp.toNatClampNeg n.toNatClampNeg) := by
    rw [vcpy_int, hz]
    simp [vcellS, varrQ, au_at]
  have e2 : (hp S).set d (100, vcpy ((S.2 s0).map Value.int) ((S.2 d).map Value.int) sp.toNatClampNeg dp.toNatClampNeg n.toNatClampNeg) = hp (au S d z) := by
    rw [← e]
    refine hp_set hd fun b d2 hb => ?_
    unfold vcellS
    split
    · rw [au_a S _ hb]
    · rw [vfill_ne S _ b d2.2 0 (fun j => by rw [au_1])]
  simp only [vcp2, hp_get, hs, hd, Option.map_some, vcellS, show varrQ 100 = true from rfl, if_true, List.length_map, h1, h2, h3, h4, h5, not_false_eq_true, and_self]
  rw [e2]
theorem vtag_hp {S : vSt} {a t : Nat} {tm : List (Option Nat)} (ha : sk[a]? = some (t, tm)) : vtag (hp S) a = t := by
  unfold vtag
  rw [hp_get, ha]
  simp only [Option.map_some, vcellS]
  split <;> rfl
