/-! the heap once all is made, as a state -/
def toI (v : Value) : Int32 := match v with
  | .int i => i
  | _ => 0
def isI (v : Value) : Bool := match v with
  | .int _ => true
  | _ => false
def fitF : List (Option Nat) → List Value → Bool
  | [], [] => true
  | some r :: t, .ref x :: l => r == x && fitF t l
  | none :: t, .int _ :: l => fitF t l
  | _, _ => false
def fitC (c : Nat × List (Option Nat)) (d : vC) : Bool := c.1 == d.1 && (if varrQ c.1 = true then d.2.all isI else fitF c.2 d.2)
def fitL : List (Nat × List (Option Nat)) → vH → Bool
  | [], [] => true
  | c :: t, d :: l => fitC c d && fitL t l
  | _, _ => false
def stOf (H : vH) : vSt := (fun a k => toI ((H.getD a (0, [])).2.getD k (.int 0)), fun a => (H.getD a (0, [])).2.map toI)
theorem map_toI : ∀ l : List Value, l.all isI = true → (l.map toI).map Value.int = l := by
  intro l
  induction l with
  | nil => intro _; rfl
  | cons v t ih =>
    intro h
    rw [List.all_cons, Bool.and_eq_true] at h
    rw [List.map_cons, List.map_cons, ih h.2]
    cases v <;> first | rfl | exact absurd h.1 (by decide) | (have h1 := h.1; simp [isI] at h1)
theorem vfill_of {S : vSt} {a : Nat} : ∀ (tm : List (Option Nat)) (l : List Value) (k0 : Nat), fitF tm l = true → (∀ k, S.1 a (k0 + k) = toI (l.getD k (.int 0))) → vfill S a tm k0 = l := by
  intro tm
  induction tm with
  | nil =>
    intro l k0 h _
    cases l with
    | nil => rfl
    | cons v t => simp [fitF] at h
  | cons o tm ih =>
    intro l k0 h hk
    cases l with
    | nil => cases o <;> simp [fitF] at h
    | cons v l =>
      have hk' : ∀ k, S.1 a (k0 + 1 + k) = toI (l.getD k (.int 0)) := fun k => by
        have := hk (k + 1)
        rw [show k0 + (k + 1) = k0 + 1 + k by omega] at this
        exact this
      cases o with
      | some r =>
        cases v <;> simp only [fitF, Bool.and_eq_true, beq_iff_eq, Bool.false_eq_true] at h
        unfold vfill
        rw [ih l (k0 + 1) h.2 hk', h.1]
      | none =>
        cases v <;> simp only [fitF, Bool.false_eq_true] at h
        unfold vfill
        rw [ih l (k0 + 1) h hk']
        have := hk 0
        rw [Nat.add_zero] at this
        rw [this]
        rfl
theorem hpL_of {S : vSt} : ∀ (l : List (Nat × List (Option Nat))) (H : vH) (b : Nat), fitL l H = true → (∀ i d, H[i]? = some d → S.2 (b + i) = d.2.map toI ∧ ∀ k, S.1 (b + i) k = toI (d.2.getD k (.int 0))) → hpL S l b = H := by
  intro l
  induction l with
  | nil =>
    intro H b h _
    cases H with
    | nil => rfl
    | cons d H => simp [fitL] at h
  | cons c l ih =>
    intro H b h hS
    cases H with
    | nil => simp [fitL] at h
    | cons d H =>
      simp only [fitL, Bool.and_eq_true] at h
      unfold hpL
      rw [ih H (b + 1) h.2 (fun i d2 hi => by
        have := hS (i + 1) d2 hi
        rw [show b + (i + 1) = b + 1 + i by omega] at this
        exact this)]
      obtain ⟨h1, h2⟩ := hS 0 d rfl
      rw [Nat.add_zero] at h1 h2
      have hc := h.1
      unfold fitC at hc
      rw [Bool.and_eq_true, beq_iff_eq] at hc
      have : vcellS S b c = d := by
        unfold vcellS
        by_cases q : varrQ c.1 = true
        · rw [if_pos q] at hc ⊢
          rw [h1, map_toI _ hc.2, hc.1]
        · rw [if_neg q] at hc ⊢
          rw [vfill_of c.2 d.2 0 hc.2 (fun k => by rw [Nat.zero_add]; exact h2 k), hc.1]
      rw [this]
theorem hp_of {H : vH} (h : fitL sk H = true) : hp (stOf H) = H := by
  unfold hp
  refine hpL_of sk H 0 h (fun i d hi => ?_)
  rw [Nat.zero_add]
  have e : H.getD i (0, []) = d := by rw [List.getD_eq_getElem?_getD, hi]; rfl
  exact ⟨by show (H.getD i (0, [])).2.map toI = _; rw [e], fun k => by show toI ((H.getD i (0, [])).2.getD k (.int 0)) = _; rw [e]⟩
def H1 : vH := psB 1 ++ mdB 249
def H0 (xs : List Int32) : vH := (104, xs.map Value.int) :: H1
def S0 (xs : List Int32) : vSt := stOf (H0 xs)
theorem psB_len : (psB 1).length = 248 := by decide +kernel
theorem fit1 : fitL sk.tail H1 = true := by decide +kernel
theorem hp_S0 (xs : List Int32) : hp (S0 xs) = H0 xs := by
  refine hp_of ?_
  have e : sk = (104, []) :: sk.tail := rfl
  rw [e]
  show (fitC (104, []) (104, xs.map Value.int) && fitL sk.tail H1) = true
  rw [fit1, Bool.and_true]
  show (true && (xs.map Value.int).all isI) = true
  rw [Bool.true_and, List.all_eq_true]
  intro v hv
  obtain ⟨x, _, rfl⟩ := List.mem_map.mp hv
  rfl
theorem S0_2 (xs : List Int32) (a : Nat) : (S0 xs).2 (a + 1) = (H1.getD a (0, [])).2.map toI := rfl
theorem S0_1 (xs : List Int32) (a k : Nat) : (S0 xs).1 (a + 1) k = toI ((H1.getD a (0, [])).2.getD k (.int 0)) := rfl
theorem S0_0 (xs : List Int32) : (S0 xs).2 0 = xs := by
  show (xs.map Value.int).map toI = xs
  rw [List.map_map]
  exact (List.map_congr_left (fun x _ => rfl)).trans (List.map_id xs)
theorem c_law0 (xs : List Int32) : runv 166 0 [some (.ref 0), none, none, none] [] [(104, xs.map Value.int)] = runv 166 16 [some (.ref 0), some (.ref 1), some (.ref 249), none] [] (hp (S0 xs)) := by
  have h1 : [(104, xs.map Value.int)].length = 1 := rfl
  have c1 := c_ctStore (p := [(104, xs.map Value.int)]) h1
  have h2 : ([(104, xs.map Value.int)] ++ psB 1).length = 249 := by rw [List.length_append, psB_len]; rfl
  have c2 := c_ctModel (p := [(104, xs.map Value.int)] ++ psB 1) h2
  simp only [s166_0, s166_3, r166_3, s166_4, s166_7, s166_8, s166_11, r166_11, s166_12, s166_15, s166_0, s166_8, h1, h2, c1, c2, List.length_cons, List.length_nil, Nat.reduceAdd, Nat.reduceLeDiff, Nat.zero_le, vbind_some, vpush_none]
  rw [hp_S0]
  rfl
theorem i_lens : (∀ i, i < 16 → ((H1.getD (7 + 3 * i) (0, [])).2.map toI).length = 24) ∧ (∀ i, i < 24 → ((H1.getD (57 + 3 * i) (0, [])).2.map toI).length = 24) ∧ (∀ i, i < 16 → ((H1.getD (154 + 6 * i) (0, [])).2.map toI).length = 255) ∧ ∀ i, i < 16 → ((H1.getD (157 + 6 * i) (0, [])).2.map toI).length = 24 := by decide +kernel
def m0 : Mst := ([], [], [], [-1, -1, -1, -1], [], [])
theorem i_cls (xs : List Int32) : ClsIs (S0 xs) m0 := by
  obtain ⟨k1, k2, k3, k4⟩ := i_lens
  refine ⟨⟨isRow_o, ?_, ?_, rfl, by simp [m0], by omega⟩, by simp [m0], ⟨isShelf_s, by simp [m0], ?_, fun i o h => by simp [m0] at h, fun i hi => ?_⟩, ⟨isShelf_c, by simp [m0], ?_, fun i o h => by simp [m0] at h, fun i hi => ?_⟩, ?_, rfl, ⟨rfl, rfl, ?_, ?_, rfl, by simp [m0], by omega⟩, ⟨rfl, rfl, ?_, ?_, rfl, by simp [m0], by omega⟩, ?_, ?_, ?_, ?_, ?_, ⟨?_, ?_, ?_, ?_, ?_⟩, fun e he => ?_, fun e he => ?_⟩
  · rw [S0_1]; decide +kernel
  · rw [S0_2]; decide +kernel
  · rw [S0_1]; decide +kernel
  · rw [show 4 + 4 + 3 * i = (7 + 3 * i) + 1 by omega, S0_2]; exact k1 i hi
  · rw [S0_1]; decide +kernel
  · rw [show 54 + 4 + 3 * i = (57 + 3 * i) + 1 by omega, S0_2]; exact k2 i hi
  · rw [S0_2]; decide +kernel
  · rw [S0_1]; decide +kernel
  · rw [S0_2]; decide +kernel
  · rw [S0_1]; decide +kernel
  · rw [S0_2]; decide +kernel
  · rw [S0_2]; decide +kernel
  · rw [S0_2]; decide +kernel
  · rw [S0_2]; decide +kernel
  · rw [S0_2]; decide +kernel
  · rw [S0_2]; decide +kernel
  · rw [S0_2]; decide +kernel
  · rw [S0_2]; decide +kernel
  · rw [S0_2]; decide +kernel
  · rw [S0_2]; decide +kernel
  · rw [S0_2]; decide +kernel
  · rw [show 155 + 6 * e = (154 + 6 * e) + 1 by omega, S0_2]; exact k3 e he
  · rw [show 158 + 6 * e = (157 + 6 * e) + 1 by omega, S0_2]; exact k4 e he
theorem i_rlen : ((H1.getD 249 (0, [])).2.map toI).length = 640 ∧ ((H1.getD 250 (0, [])).2.map toI).length = 2 ∧ ((H1.getD 251 (0, [])).2.map toI).length = 57 ∧ ((H1.getD 252 (0, [])).2.map toI).length = 57 ∧ ((H1.getD 253 (0, [])).2.map toI).length = 1368 ∧ ((H1.getD 254 (0, [])).2.map toI).length = 40 ∧ ((H1.getD 255 (0, [])).2.map toI).length = 4 ∧ ((H1.getD 256 (0, [])).2.map toI).length = 16 ∧ ((H1.getD 257 (0, [])).2.map toI).length = 8 ∧ ((H1.getD 258 (0, [])).2.map toI).length = 16 ∧ ((H1.getD 259 (0, [])).2.map toI).length = 16 ∧ ((H1.getD 260 (0, [])).2.map toI).length = 256 ∧ ((H1.getD 261 (0, [])).2.map toI).length = 16 ∧ ((H1.getD 262 (0, [])).2.map toI).length = 16 ∧ ((H1.getD 263 (0, [])).2.map toI).length = 16 ∧ ((H1.getD 264 (0, [])).2.map toI).length = 4096 ∧ ((H1.getD 265 (0, [])).2.map toI).length = 16 := by decide +kernel
theorem i_mod (xs : List Int32) : ModIs (S0 xs) m0 := by
  refine ⟨i_rlen, ⟨?_, i_rlen.1, rfl, by simp [m0]⟩, by simp [m0], by simp [m0], ⟨by omega, ?_, by simp [m0], fun i o h => by simp [m0] at h⟩, ⟨by omega, ?_, by simp [m0], fun i o h => by simp [m0] at h⟩, ?_, fun i hi => ?_, ?_, ?_, by simp [m0], rfl⟩
  · rw [S0_1]; decide +kernel
  · rw [S0_2]; decide +kernel
  · rw [S0_2]; decide +kernel
  · rw [S0_2]; decide +kernel
  · rw [S0_2]
    have hw : wMk m0.2.1 m0.2.2.2.2.1 i = false := rfl
    rw [hw]
    have : ∀ i, i < 16 → ((H1.getD 256 (0, [])).2.map toI).getD i 0 = bI false := by decide +kernel
    exact this i hi
  · rw [S0_1]; decide +kernel
  · rw [S0_1]; decide +kernel
