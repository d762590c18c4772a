/-! the result of a run, as a function; one row an instruction is derived from these -/
theorem vexec_up {f mi pc : Nat} {ls : vL} {st : List Value} {h : vH} {r : Option Value × vH} (hs : vexec f mi pc ls st h = some r) : vexec (f + 1) mi pc ls st h = some r := by
  induction f generalizing mi pc ls st h r with
  | zero => cases hs
  | succ f ih =>
    unfold vexec at hs
    unfold vexec
    split at hs
    · cases hs
    · rename_i x hx
      split at hs
      · rename_i hkd
        split at hs
        · cases hs
        · rename_i y hy
          exact ih hs
      · exact hs
      · rename_i hk0 hk1
        split at hs
        · cases hs
        · rename_i as rr hc
          split at hs
          · cases hs
          · rename_i v1 h2 hv1
            simp only [ih hv1]
            exact ih hs
theorem vexec_le {f g mi pc : Nat} {ls : vL} {st : List Value} {h : vH} {r : Option Value × vH} (hfg : f ≤ g) (hs : vexec f mi pc ls st h = some r) : vexec g mi pc ls st h = some r := by
  induction hfg with
  | refl => exact hs
  | step _ ih => exact vexec_up ih
theorem vexec_det {f g mi pc : Nat} {ls : vL} {st : List Value} {h : vH} {r q : Option Value × vH} (hs : vexec f mi pc ls st h = some r) (hq : vexec g mi pc ls st h = some q) : r = q := by
  have h1 := vexec_le (Nat.le_max_left f g) hs
  have h2 := vexec_le (Nat.le_max_right f g) hq
  exact Option.some.inj (h1.symm.trans h2)
noncomputable def runv (mi pc : Nat) (ls : vL) (st : List Value) (h : vH) : Option (Option Value × vH) := Classical.epsilon fun o => ∀ r, o = some r ↔ ∃ f, vexec f mi pc ls st h = some r
theorem runv_iff {mi pc : Nat} {ls : vL} {st : List Value} {h : vH} {r : Option Value × vH} : runv mi pc ls st h = some r ↔ ∃ f, vexec f mi pc ls st h = some r := by
  have hex : ∃ o : Option (Option Value × vH), ∀ r, o = some r ↔ ∃ f, vexec f mi pc ls st h = some r := by
    by_cases hx : ∃ f r, vexec f mi pc ls st h = some r
    · obtain ⟨f, r, hr⟩ := hx
      exact ⟨some r, fun q => ⟨fun e => ⟨f, e ▸ hr⟩, fun ⟨g, hg⟩ => congrArg some (vexec_det hr hg)⟩⟩
    · exact ⟨none, fun q => ⟨fun e => (by cases e), fun ⟨g, hg⟩ => absurd ⟨g, q, hg⟩ hx⟩⟩
  exact Classical.epsilon_spec hex r
theorem runv_ext {mi pc mi' pc' : Nat} {ls ls' : vL} {st st' : List Value} {h h' : vH} (hh : ∀ r, (∃ f, vexec f mi pc ls st h = some r) ↔ ∃ f, vexec f mi' pc' ls' st' h' = some r) : runv mi pc ls st h = runv mi' pc' ls' st' h' := by
  apply Option.ext
  intro r
  rw [runv_iff, runv_iff]
  exact hh r
theorem runv_plain {mi pc : Nat} {ls : vL} {st : List Value} {h : vH} {x : vI} (hc : vcode mi pc = some x) (hk : vkind x = 0) : runv mi pc ls st h = (vstep x pc ls st h).bind fun y => runv mi y.1 y.2.1 y.2.2.1 y.2.2.2 := by
  cases hs : vstep x pc ls st h with
  | none =>
    apply Option.ext
    intro r
    rw [runv_iff]
    constructor
    · rintro ⟨f, hf⟩
      cases f with
      | zero => cases hf
      | succ f =>
        unfold vexec at hf
        simp only [hc, hk, hs] at hf
        cases hf
    · intro hr
      cases hr
  | some y =>
    refine runv_ext fun r => ⟨?_, ?_⟩
    · rintro ⟨f, hf⟩
      cases f with
      | zero => cases hf
      | succ f =>
        unfold vexec at hf
        simp only [hc, hk, hs] at hf
        exact ⟨f, hf⟩
    · rintro ⟨f, hf⟩
      refine ⟨f + 1, ?_⟩
      unfold vexec
      simp only [hc, hk, hs]
      exact hf
noncomputable def callv (mi : Nat) (as : List Value) (h : vH) : Option (Option Value × vH) := runv mi 0 (vinit mi as) [] h
def vbind (o : Option (Option Value × vH)) (K : Option Value → vH → Option (Option Value × vH)) : Option (Option Value × vH) := match o with
  | none => none
  | some (v, h) => K v h
theorem vbind_some (v : Option Value) (h : vH) (K : Option Value → vH → Option (Option Value × vH)) : vbind (some (v, h)) K = K v h := rfl
def vpush (v : Option Value) (st : List Value) : List Value := match v with
  | none => st
  | some w => w :: st
theorem vpush_none (st : List Value) : vpush none st = st := rfl
theorem vpush_some (w : Value) (st : List Value) : vpush (some w) st = w :: st := rfl
theorem runv_call {mi pc : Nat} {ls : vL} {st as r : List Value} {h : vH} {x : vI} (hc : vcode mi pc = some x) (hk : vkind x = 2) (hv : vcall mi x st h = some (as, r)) : runv mi pc ls st h = vbind (callv x.2.2.1 as h) fun v h' => runv mi (pc + 3) ls (vpush v r) h' := by
  have hpush : ∀ v : Option Value, v.toList ++ r = vpush v r := by intro v; cases v <;> rfl
  apply Option.ext
  intro q
  rw [runv_iff]
  constructor
  · rintro ⟨f, hf⟩
    cases f with
    | zero => cases hf
    | succ f =>
      unfold vexec at hf
      simp only [hc, hk, hv] at hf
      split at hf
      · cases hf
      · rename_i v1 h2 hv1
        have e1 : callv x.2.2.1 as h = some (v1, h2) := runv_iff.mpr ⟨f, hv1⟩
        rw [e1]
        show runv _ _ _ _ _ = some q
        rw [← hpush]
        exact runv_iff.mpr ⟨f, hf⟩
  · intro hq
    cases e1 : callv x.2.2.1 as h with
    | none => rw [e1] at hq; cases hq
    | some w =>
      obtain ⟨v1, h2⟩ := w
      rw [e1] at hq
      obtain ⟨f1, hf1⟩ := runv_iff.mp e1
      obtain ⟨f2, hf2⟩ := runv_iff.mp (show runv mi (pc + 3) ls (vpush v1 r) h2 = some q from hq)
      rw [← hpush] at hf2
      refine ⟨max f1 f2 + 1, ?_⟩
      unfold vexec
      simp only [hc, hk, hv, vexec_le (Nat.le_max_left f1 f2) hf1]
      exact vexec_le (Nat.le_max_right f1 f2) hf2
def vtag (h : vH) (a : Nat) : Nat := match h[a]? with
  | some (t, _) => t
  | none => 999
theorem vcall_mk {mi : Nat} {x : vI} {st as r : List Value} {h : vH} (h1 : st = as.reverse ++ r) (h2 : as.length = x.2.2.2) (h3 : r.length ≤ 4) (h4 : vrk x.2.2.1 < vrk mi) (h5 : vrecv x as h = true) (h6 : as.all (fun v => v.category == 1) = true) : vcall mi x st h = some (as, r) := by
  have e1 : st.take x.2.2.2 = as.reverse := by rw [h1, ← h2, ← List.length_reverse, List.take_left']; rfl
  have e2 : st.drop x.2.2.2 = r := by rw [h1, ← h2, ← List.length_reverse, List.drop_left']; rfl
  unfold vcall
  rw [e1, e2, List.reverse_reverse, if_pos]
  refine ⟨by rw [h1, List.length_append, List.length_reverse]; omega, h3, h4, h5, ?_⟩
  rw [List.all_reverse]
  exact h6
theorem vrecv_tag {a idx len cm n : Nat} {as : List Value} {h : vH} (ht : vtag h a = vci cm) (hn : vci cm ≠ 999) : vrecv (.invokevirtual idx, len, cm, n) (.ref a :: as) h = true := by
  unfold vtag at ht
  unfold vrecv
  split at ht
  · rename_i t l hl
    simp only [hl, ht, decide_true]
  · exact absurd ht.symm hn
theorem runv_ret {mi pc : Nat} {ls : vL} {st : List Value} {h : vH} {x : vI} {q : Option Value × vH} (hc : vcode mi pc = some x) (hk : vkind x = 1) (hv : vretv mi x st h = some q) : runv mi pc ls st h = some q := by
  refine runv_iff.mpr ⟨1, ?_⟩
  unfold vexec
  simp only [hc, hk]
  exact hv
/-! heap reads and writes, as functions with the rest of the run -/
def vgf (h : vH) (a ci k : Nat) (K : Value → Option (Option Value × vH)) : Option (Option Value × vH) := match h[a]? with
  | some (t, l) => if t = ci then match l[k]? with
    | some v => K v
    | none => none
    else none
  | none => none
def vpf (h : vH) (a ci k : Nat) (v : Value) (K : vH → Option (Option Value × vH)) : Option (Option Value × vH) := match h[a]? with
  | some (t, l) => if t = ci ∧ k < l.length ∧ vfit t k v = true then K (h.set a (t, l.set k v)) else none
  | none => none
def vld2 (h : vH) (a : Nat) (ok : Nat → Bool) (i : Int32) (K : Value → Option (Option Value × vH)) : Option (Option Value × vH) := match h[a]? with
  | some (t, l) => if ok t = true ∧ ¬ i < 0 then match l[i.toNatClampNeg]? with
    | some v => K v
    | none => none
    else none
  | none => none
def vst2 (h : vH) (a tg : Nat) (i : Int32) (v : Value) (K : vH → Option (Option Value × vH)) : Option (Option Value × vH) := match h[a]? with
  | some (t, l) => if t = tg ∧ ¬ i < 0 ∧ i.toNatClampNeg < l.length then K (h.set a (t, l.set i.toNatClampNeg v)) else none
  | none => none
def vlen2 (h : vH) (a : Nat) (K : Value → Option (Option Value × vH)) : Option (Option Value × vH) := match h[a]? with
  | some (t, l) => if 100 ≤ t ∧ t ≤ 104 then K (.int (Int32.ofNat l.length)) else none
  | none => none
def vcp2 (h : vH) (s0 d : Nat) (sp dp n : Int32) (K : vH → Option (Option Value × vH)) : Option (Option Value × vH) := match h[s0]?, h[d]? with
  | some (ts, f), some (td, g) => if ts = 100 ∧ td = 100 ∧ ¬ sp < 0 ∧ ¬ dp < 0 ∧ ¬ n < 0 ∧ sp.toNatClampNeg + n.toNatClampNeg ≤ f.length ∧ dp.toNatClampNeg + n.toNatClampNeg ≤ g.length then K (h.set d (td, vcpy f g sp.toNatClampNeg dp.toNatClampNeg n.toNatClampNeg)) else none
  | _, _ => none
section RUNV
variable {mi pc idx len ci k r2 : Nat} {ls : vL} {st : List Value} {h : vH}
theorem runv_get {a : Nat} (hc : vcode mi pc = some (.getfield idx, len, ci, k)) : runv mi pc ls (.ref a :: st) h = vgf h a ci k fun v => runv mi (pc + 3) ls (v :: st) h := by
  rw [runv_plain hc rfl]
  simp only [vstep, vgf]
  cases h[a]? with
  | none => rfl
  | some c =>
    obtain ⟨t, l⟩ := c
    by_cases ht : t = ci
    · simp only [if_pos ht]
      cases l[k]? <;> rfl
    · simp only [if_neg ht]
      rfl
theorem runv_put {a : Nat} {v : Value} (hc : vcode mi pc = some (.putfield idx, len, ci, k)) : runv mi pc ls (v :: .ref a :: st) h = vpf h a ci k v fun h1 => runv mi (pc + 3) ls st h1 := by
  rw [runv_plain hc rfl]
  simp only [vstep, vpf]
  cases h[a]? with
  | none => rfl
  | some c =>
    obtain ⟨t, l⟩ := c
    by_cases ht : t = ci ∧ k < l.length ∧ vfit t k v = true
    · simp only [if_pos ht]
      rfl
    · simp only [if_neg ht]
      rfl
theorem runv_iald {a : Nat} {i : Int32} (hc : vcode mi pc = some (.iaload, len, ci, k)) : runv mi pc ls (.int i :: .ref a :: st) h = vld2 h a (fun t => t == 100 || t == 104) i fun v => runv mi (pc + 1) ls (v :: st) h := by
  rw [runv_plain hc rfl]
  simp only [vstep, vld2, Bool.or_eq_true, beq_iff_eq]
  cases h[a]? with
  | none => rfl
  | some c =>
    obtain ⟨t, l⟩ := c
    by_cases ht : (t = 100 ∨ t = 104) ∧ ¬ i < 0
    · simp only [if_pos ht]
      cases l[i.toNatClampNeg]? <;> rfl
    · simp only [if_neg ht]
      rfl
theorem runv_zald {a : Nat} {i : Int32} (hc : vcode mi pc = some (.baload, len, ci, k)) : runv mi pc ls (.int i :: .ref a :: st) h = vld2 h a (fun t => t == 101) i fun v => runv mi (pc + 1) ls (v :: st) h := by
  rw [runv_plain hc rfl]
  simp only [vstep, vld2, Bool.or_eq_true, beq_iff_eq]
  cases h[a]? with
  | none => rfl
  | some c =>
    obtain ⟨t, l⟩ := c
    by_cases ht : t = 101 ∧ ¬ i < 0
    · simp only [if_pos ht]
      cases l[i.toNatClampNeg]? <;> rfl
    · simp only [if_neg ht]
      rfl
theorem runv_aald {a : Nat} {i : Int32} (hc : vcode mi pc = some (.aaload, len, ci, k)) : runv mi pc ls (.int i :: .ref a :: st) h = vld2 h a (fun t => t == 102 || t == 103) i fun v => runv mi (pc + 1) ls (v :: st) h := by
  rw [runv_plain hc rfl]
  simp only [vstep, vld2, Bool.or_eq_true, beq_iff_eq]
  cases h[a]? with
  | none => rfl
  | some c =>
    obtain ⟨t, l⟩ := c
    by_cases ht : (t = 102 ∨ t = 103) ∧ ¬ i < 0
    · simp only [if_pos ht]
      cases l[i.toNatClampNeg]? <;> rfl
    · simp only [if_neg ht]
      rfl
theorem runv_iast {a : Nat} {i v : Int32} (hc : vcode mi pc = some (.iastore, len, ci, k)) : runv mi pc ls (.int v :: .int i :: .ref a :: st) h = vst2 h a 100 i (.int v) fun h1 => runv mi (pc + 1) ls st h1 := by
  rw [runv_plain hc rfl]
  simp only [vstep, vst2]
  cases h[a]? with
  | none => rfl
  | some c =>
    obtain ⟨t, l⟩ := c
    by_cases ht : t = 100 ∧ ¬ i < 0 ∧ i.toNatClampNeg < l.length
    · simp only [if_pos ht]
      rfl
    · simp only [if_neg ht]
      rfl
theorem runv_zast {a : Nat} {i v : Int32} (hc : vcode mi pc = some (.bastore, len, ci, k)) : runv mi pc ls (.int v :: .int i :: .ref a :: st) h = vst2 h a 101 i (.int (v &&& 1)) fun h1 => runv mi (pc + 1) ls st h1 := by
  rw [runv_plain hc rfl]
  simp only [vstep, vst2]
  cases h[a]? with
  | none => rfl
  | some c =>
    obtain ⟨t, l⟩ := c
    by_cases ht : t = 101 ∧ ¬ i < 0 ∧ i.toNatClampNeg < l.length
    · simp only [if_pos ht]
      rfl
    · simp only [if_neg ht]
      rfl
theorem runv_alen {a : Nat} (hc : vcode mi pc = some (.arraylength, len, ci, k)) : runv mi pc ls (.ref a :: st) h = vlen2 h a fun v => runv mi (pc + 1) ls (v :: st) h := by
  rw [runv_plain hc rfl]
  simp only [vstep, vlen2]
  cases h[a]? with
  | none => rfl
  | some c =>
    obtain ⟨t, l⟩ := c
    by_cases ht : 100 ≤ t ∧ t ≤ 104
    · simp only [if_pos ht]
      rfl
    · simp only [if_neg ht]
      rfl
theorem runv_copy {s0 d : Nat} {sp dp n : Int32} (hc : vcode mi pc = some (.invokestatic idx, len, 1001, k)) (hst : st.length ≤ 4) : runv mi pc ls (.int n :: .int dp :: .ref d :: .int sp :: .ref s0 :: st) h = vcp2 h s0 d sp dp n fun h1 => runv mi (pc + 3) ls st h1 := by
  rw [runv_plain hc rfl]
  simp only [vstep, vcp2]
  rw [if_pos (show True ∧ st.length ≤ 4 from ⟨trivial, hst⟩)]
  cases h[s0]? with
  | none => rfl
  | some c =>
    cases h[d]? with
    | none => rfl
    | some e =>
      obtain ⟨ts, f⟩ := c
      obtain ⟨td, g⟩ := e
      by_cases ht : ts = 100 ∧ td = 100 ∧ ¬ sp < 0 ∧ ¬ dp < 0 ∧ ¬ n < 0 ∧ sp.toNatClampNeg + n.toNatClampNeg ≤ f.length ∧ dp.toNatClampNeg + n.toNatClampNeg ≤ g.length
      · simp only [if_pos ht]
        rfl
      · simp only [if_neg ht]
        rfl
theorem runv_min {x y : Int32} (hc : vcode mi pc = some (.invokestatic idx, len, 1002, k)) : runv mi pc ls [.int y, .int x] h = runv mi (pc + 3) ls [.int (if y < x then y else x)] h := by
  rw [runv_plain hc rfl]
  rfl
theorem runv_if {c : Jvm.ClassFile.Cond} {off : Int} {v : Int32} (hc : vcode mi pc = some (.ifCond c off, len, ci, k)) (h0 : 0 ≤ (pc : Int) + off) : runv mi pc ls (.int v :: st) h = if vcmp c v 0 = true then runv mi (vtgt pc off) ls st h else runv mi (pc + 3) ls st h := by
  rw [runv_plain hc rfl]
  simp only [vstep, vjump, if_pos h0]
  by_cases hq : vcmp c v 0 = true
  · simp only [if_pos hq]
    rfl
  · simp only [if_neg hq]
    rfl
theorem runv_icmp {c : Jvm.ClassFile.Cond} {off : Int} {v w : Int32} (hc : vcode mi pc = some (.if_icmp c off, len, ci, k)) (h0 : 0 ≤ (pc : Int) + off) : runv mi pc ls (.int w :: .int v :: st) h = if vcmp c v w = true then runv mi (vtgt pc off) ls st h else runv mi (pc + 3) ls st h := by
  rw [runv_plain hc rfl]
  simp only [vstep, vjump, if_pos h0]
  by_cases hq : vcmp c v w = true
  · simp only [if_pos hq]
    rfl
  · simp only [if_neg hq]
    rfl
theorem runv_div {v w : Int32} (hc : vcode mi pc = some (.idiv, len, ci, k)) (hw : ¬ w = 0) : runv mi pc ls (.int w :: .int v :: st) h = runv mi (pc + 1) ls (.int (v / w) :: st) h := by
  rw [runv_plain hc rfl]
  simp only [vstep, if_neg hw]
  rfl
theorem runv_rem {v w : Int32} (hc : vcode mi pc = some (.irem, len, ci, k)) (hw : ¬ w = 0) : runv mi pc ls (.int w :: .int v :: st) h = runv mi (pc + 1) ls (.int (v - v / w * w) :: st) h := by
  rw [runv_plain hc rfl]
  simp only [vstep, if_neg hw]
  rfl
theorem runv_tbl {d lo hi : Int} {offs : Array Int} {v : Int32} {tg : Nat} (hc : vcode mi pc = some (.tableswitch d lo hi offs, len, ci, k)) (ht : (if v.toInt < lo ∨ hi < v.toInt then some d else offs[(v.toInt - lo).toNat]?) = some ((tg : Int) - pc)) : runv mi pc ls (.int v :: st) h = runv mi tg ls st h := by
  rw [runv_plain hc rfl]
  have e0 : 0 ≤ (pc : Int) + ((tg : Int) - pc) := by omega
  have e1 : vtgt pc ((tg : Int) - pc) = tg := by unfold vtgt; omega
  simp only [vstep]
  by_cases hv : v.toInt < lo ∨ hi < v.toInt
  · rw [if_pos hv] at ht ⊢
    cases ht
    simp only [vjump, if_pos e0, e1]
    rfl
  · rw [if_neg hv] at ht ⊢
    simp only [ht, vjump, if_pos e0, e1]
    rfl
theorem runv_lkp {d : Int} {ps : Array (Int × Int)} {v : Int32} {tg : Nat} (hc : vcode mi pc = some (.lookupswitch d ps, len, ci, k)) (hp : (ps.toList.zip (ps.toList.drop 1)).all (fun (a, next) => a.1 < next.1) = true) (ht : Op.lookupswitch.offset ps.toList d v.toInt = (tg : Int) - pc) : runv mi pc ls (.int v :: st) h = runv mi tg ls st h := by
  rw [runv_plain hc rfl]
  have e0 : 0 ≤ (pc : Int) + ((tg : Int) - pc) := by omega
  have e1 : vtgt pc ((tg : Int) - pc) = tg := by unfold vtgt; omega
  simp only [vstep, if_pos hp, ht, vjump, if_pos e0, e1]
  rfl
end RUNV
