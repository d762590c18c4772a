/-! the small machine's heap against the machine's heap -/
def vrho (sb b : Nat) : Nat → Nat
  | 0 => sb
  | k + 1 => b + k
def vsh (sb b : Nat) (v : Value) : Value := match v with
  | .ref a => .ref (vrho sb b a)
  | w => w
def vAt (D : va_G) (cA : Nat → ClassId) (sb b : Nat) (U : State) (k : Nat) (c : vC) (H : Heap) : Prop :=
  if c.1 < 50 then va_at D vcl (vrho sb b k, .inr (c.1, c.2.map (vsh sb b))) H ∧ ∀ q, vcl[c.1]? = some q → c.2.length = q.2.2
  else if c.1 = 104 then ∃ xs : List Int32, c.2 = xs.map Value.int ∧ va_X (vrho sb b k) xs.length (fun j => xs.getD j 0) U H
  else if c.1 < 102 then ∃ xs : List Int32, c.2 = xs.map Value.int ∧ H[vrho sb b k]? = some (arrV (cA c.1) xs.length (fun j => .int (xs.getD j 0)))
  else H[vrho sb b k]? = some (arrV (cA c.1) c.2.length (fun j => vsh sb b (c.2.getD j .null)))
def vHR (D : va_G) (cA : Nat → ClassId) (sb b : Nat) (U : State) (h : vH) (H : Heap) : Prop :=
  H.size + 1 = b + h.length ∧ sb < b ∧ 0 < h.length ∧ ∀ (k : Nat) (c : vC), h[k]? = some c → (k = 0 ↔ c.1 = 104) ∧ vAt D cA sb b U k c H
def vz (h : vH) : Nat := (h.map fun c => c.2.length).sum
theorem vrho_inj {sb b i j : Nat} (h : sb < b) (e : vrho sb b i = vrho sb b j) : i = j := by
  cases i <;> cases j <;> simp only [vrho] at e <;> omega
theorem vAt.kept {D : va_G} {cA : Nat → ClassId} {sb b : Nat} {U : State} {k : Nat} {c : vC} {H H1 : Heap} (h : vAt D cA sb b U k c H) (hq : H1[vrho sb b k]? = H[vrho sb b k]?) : vAt D cA sb b U k c H1 := by
  unfold vAt at h ⊢
  by_cases h1 : c.1 < 50
  · rw [if_pos h1] at h ⊢
    exact ⟨h.1.kept hq, h.2⟩
  · rw [if_neg h1] at h ⊢
    by_cases h2 : c.1 = 104
    · rw [if_pos h2] at h ⊢
      obtain ⟨xs, e, hx⟩ := h
      exact ⟨xs, e, hx.kept hq⟩
    · rw [if_neg h2] at h ⊢
      by_cases h3 : c.1 < 102
      · rw [if_pos h3] at h ⊢
        obtain ⟨xs, e, hx⟩ := h
        exact ⟨xs, e, by rw [hq]; exact hx⟩
      · rw [if_neg h3] at h ⊢
        rw [hq]; exact h
theorem vAt.moved {D : va_G} {cA : Nat → ClassId} {sb b : Nat} {U V : State} {k : Nat} {c : vC} {H : Heap} (hvm : U.vm.Alike V.vm) (h : vAt D cA sb b U k c H) : vAt D cA sb b V k c H := by
  unfold vAt at h ⊢
  by_cases h1 : c.1 < 50
  · rw [if_pos h1] at h ⊢
    exact h
  · rw [if_neg h1] at h ⊢
    by_cases h2 : c.1 = 104
    · rw [if_pos h2] at h ⊢
      obtain ⟨xs, e, hx⟩ := h
      exact ⟨xs, e, hx.moved hvm⟩
    · rw [if_neg h2] at h ⊢
      exact h
theorem vHR.moved {D : va_G} {cA : Nat → ClassId} {sb b : Nat} {U V : State} {h : vH} {H : Heap} (hvm : U.vm.Alike V.vm) (hh : vHR D cA sb b U h H) : vHR D cA sb b V h H :=
  ⟨hh.1, hh.2.1, hh.2.2.1, fun k c hk => ⟨(hh.2.2.2 k c hk).1, (hh.2.2.2 k c hk).2.moved hvm⟩⟩
theorem vHR.set {D : va_G} {cA : Nat → ClassId} {sb b : Nat} {U : State} {h : vH} {H H1 : Heap} {a t : Nat} {l l1 : List Value} (hh : vHR D cA sb b U h H) (ha : h[a]? = some (t, l)) (ht : t ≠ 104) (hz : H1.size = H.size) (hq : ∀ q : Nat, q ≠ vrho sb b a → H1[q]? = H[q]?) (hA : vAt D cA sb b U a (t, l1) H1) : vHR D cA sb b U (h.set a (t, l1)) H1 := by
  obtain ⟨e1, e2, e3, e4⟩ := hh
  have hlt : a < h.length := (List.getElem?_eq_some_iff.mp ha).1
  refine ⟨by rw [hz, List.length_set]; exact e1, e2, by rw [List.length_set]; exact e3, fun k c hk => ?_⟩
  by_cases hka : a = k
  · subst hka
    rw [List.getElem?_set_self hlt] at hk
    cases hk
    exact ⟨(e4 a _ ha).1, hA⟩
  · rw [List.getElem?_set_ne hka] at hk
    obtain ⟨g1, g2⟩ := e4 k c hk
    exact ⟨g1, g2.kept (hq _ (fun e => hka (vrho_inj e2 e).symm))⟩
theorem vrho_top {sb b n z : Nat} (h : z + 1 = b + n) (hn : 0 < n) : vrho sb b n = z := by
  cases n with
  | zero => omega
  | succ k => simp only [vrho]; omega
theorem vrho_lt {sb b n z k : Nat} (h : z + 1 = b + n) (hsb : sb < b) (hn : 0 < n) (hk : k < n) : vrho sb b k < z := by
  cases k <;> simp only [vrho] <;> omega
theorem vHR.push {D : va_G} {cA : Nat → ClassId} {sb b : Nat} {U : State} {h : vH} {H H1 : Heap} {c : vC} (hh : vHR D cA sb b U h H) (ht : c.1 ≠ 104) (hz : H1.size = H.size + 1) (hq : ∀ q : Nat, q < H.size → H1[q]? = H[q]?) (hA : vAt D cA sb b U h.length c H1) : vHR D cA sb b U (h ++ [c]) H1 := by
  obtain ⟨e1, e2, e3, e4⟩ := hh
  refine ⟨by simp only [List.length_append, List.length_singleton]; omega, e2, by simp, fun k c' hk => ?_⟩
  by_cases hl : k < h.length
  · rw [List.getElem?_append_left hl] at hk
    obtain ⟨g1, g2⟩ := e4 k c' hk
    exact ⟨g1, g2.kept (hq _ (vrho_lt e1 e2 e3 hl))⟩
  · rw [List.getElem?_append_right (by omega)] at hk
    have hz : k - h.length < 1 := (List.getElem?_eq_some_iff.mp hk).1
    have hk0 : k = h.length := by omega
    subst hk0
    simp at hk
    subst hk
    exact ⟨⟨fun e => by omega, fun e => absurd e ht⟩, hA⟩
theorem vz_push (h : vH) (c : vC) : vz (h ++ [c]) = vz h + c.2.length := by simp [vz]
theorem vz_set (h : vH) (a : Nat) (c d : vC) (ha : h[a]? = some c) (e : d.2.length = c.2.length) : vz (h.set a d) = vz h := by
  unfold vz
  rw [List.map_set]
  have hc : (h.map fun c => c.2.length)[a]? = some d.2.length := by rw [List.getElem?_map, ha, e]; rfl
  congr 1
  apply List.ext_getElem?
  intro i
  by_cases hi : a = i
  · subst hi
    have hlt : a < (h.map fun c => c.2.length).length := (List.getElem?_eq_some_iff.mp hc).1
    rw [List.getElem?_set_self hlt, hc]
  · rw [List.getElem?_set_ne hi]
theorem varr_congr {cI : ClassId} {N : Nat} {f g : Nat → Value} (h : ∀ j, j < N → f j = g j) : arrV cI N f = arrV cI N g := by
  unfold arrV
  congr 1
  apply congrArg
  funext j
  exact h j.val j.isLt
/-- the locals -/
def vLs (sb b : Nat) (ars : Array Slot) (ls : vL) (nL : Nat) : Prop := ars.size = nL ∧ ls.length = nL ∧ lv_wf ars ∧ ∀ (i : Nat) (v : Value), ls[i]? = some (some v) → ars[i]? = some (.val (vsh sb b v)) ∧ v.category = 1
theorem vsh_cat (sb b : Nat) (v : Value) : (vsh sb b v).category = v.category := by cases v <;> rfl
def vas (sb b : Nat) (ls : vL) : List (Nat × Value) := (List.range ls.length).filterMap fun i => (vld ls i).map fun v => (i, vsh sb b v)
theorem vld_some {ls : vL} {i : Nat} {v : Value} : vld ls i = some v ↔ ls[i]? = some (some v) := by
  unfold vld
  split
  · rename_i w hw
    rw [hw]
    simp
  · rename_i hw
    constructor
    · intro h; cases h
    · intro h; exact absurd h (hw v)
theorem vas_mem {sb b : Nat} {ls : vL} {q : Nat × Value} : q ∈ vas sb b ls ↔ ∃ v, ls[q.1]? = some (some v) ∧ q.2 = vsh sb b v := by
  unfold vas
  rw [List.mem_filterMap]
  constructor
  · rintro ⟨i, -, hi⟩
    rw [Option.map_eq_some_iff] at hi
    obtain ⟨v, h1, rfl⟩ := hi
    exact ⟨v, vld_some.mp h1, rfl⟩
  · rintro ⟨v, h1, h2⟩
    refine ⟨q.1, List.mem_range.mpr (List.getElem?_eq_some_iff.mp h1).1, ?_⟩
    rw [vld_some.mpr h1]
    obtain ⟨q1, q2⟩ := q
    simp only at h2
    rw [h2]
    rfl
theorem vLs.has {sb b : Nat} {ars : Array Slot} {ls : vL} {nL : Nat} (h : vLs sb b ars ls nL) : lv_has ars nL (vas sb b ls) := by
  refine ⟨h.1, h.2.2.1, fun q hq => ?_⟩
  obtain ⟨v, h1, h2⟩ := vas_mem.mp hq
  rw [h2]
  exact (h.2.2.2 _ _ h1).1
theorem vLs.get {sb b : Nat} {ars : Array Slot} {ls : vL} {nL i : Nat} {v : Value} (h : vLs sb b ars ls nL) (hv : vld ls i = some v) : ars[i]? = some (.val (vsh sb b v)) := (h.2.2.2 i v (vld_some.mp hv)).1
theorem vLs.back {sb b : Nat} {ars ars1 : Array Slot} {ls : vL} {nL i : Nat} {v : Value} (h : vLs sb b ars ls nL) (hc : v.category = 1) (hi : i < ls.length)
    (h1 : lv_has ars1 nL ((i, vsh sb b v) :: (vas sb b ls).filter (fun q => !(q.1 == i) && !(q.1 + 1 == i && q.2.category == 2)))) : vLs sb b ars1 (vst ls i v) nL := by
  refine ⟨h1.1, by unfold vst; rw [List.length_set]; exact h.2.1, h1.2.1, fun j w hj => ?_⟩
  unfold vst at hj
  by_cases hji : i = j
  · subst hji
    rw [List.getElem?_set_self hi] at hj
    cases hj
    exact ⟨h1.2.2 (i, vsh sb b v) List.mem_cons_self, hc⟩
  · rw [List.getElem?_set_ne hji] at hj
    obtain ⟨g1, g2⟩ := h.2.2.2 j w hj
    refine ⟨h1.2.2 (j, vsh sb b w) (List.mem_cons_of_mem _ (List.mem_filter.mpr ⟨vas_mem.mpr ⟨w, hj, rfl⟩, ?_⟩)), g2⟩
    have e1 : (j == i) = false := by simp; omega
    have e2 : ((vsh sb b w).category == 2) = false := by rw [vsh_cat, g2]; rfl
    simp only [e1, e2, Bool.and_false, Bool.not_false, Bool.and_self]
theorem vas_at {sb b : Nat} {ls : vL} {i : Nat} {v : Value} (h : vld ls i = some v) : ∃ k : Nat, (vas sb b ls)[k]? = some (i, vsh sb b v) :=
  List.mem_iff_getElem?.mp (vas_mem.mpr ⟨v, vld_some.mp h, rfl⟩)
