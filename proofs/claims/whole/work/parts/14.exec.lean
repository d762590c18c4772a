/-! the small machine's run is the machine's run -/
theorem vretv_h {mi : Nat} {x : vI} {st : List Value} {h h1 : vH} {v : Option Value} (hr : vretv mi x st h = some (v, h1)) : h1 = h := by
  unfold vretv at hr
  split at hr
  · split at hr
    · cases hr; rfl
    · cases hr
  · split at hr
    · cases hr; rfl
    · split at hr
      · cases hr; rfl
      · cases hr
    · cases hr
  · split at hr
    · cases hr; rfl
    · cases hr
  · split at hr
    · cases hr; rfl
    · cases hr
  · cases hr
theorem vstep_mono {x : vI} {pc : Nat} {ls : vL} {st : List Value} {h : vH} {y : vS} (hs : vstep x pc ls st h = some y) : h.length ≤ y.2.2.2.length ∧ vz h ≤ vz y.2.2.2 := by
  obtain ⟨i, len, r1, r2⟩ := x
  have same : ∀ {pc1 : Nat} {ls1 : vL} {st1 : List Value}, some (pc1, ls1, st1, h) = some y → h.length ≤ y.2.2.2.length ∧ vz h ≤ vz y.2.2.2 := fun hq => by
    cases hq
    exact ⟨Nat.le_refl _, Nat.le_refl _⟩
  have jmp : ∀ {off : Int} {r : List Value}, vjump pc off ls r h = some y → h.length ≤ y.2.2.2.length ∧ vz h ≤ vz y.2.2.2 := fun hq => by
    obtain ⟨-, rfl⟩ := vjump_some hq
    exact ⟨Nat.le_refl _, Nat.le_refl _⟩
  have psh : ∀ {pc1 : Nat} {ls1 : vL} {st1 : List Value} {c : vC}, some (pc1, ls1, st1, h ++ [c]) = some y → h.length ≤ y.2.2.2.length ∧ vz h ≤ vz y.2.2.2 := fun hq => by
    cases hq
    exact ⟨by simp, by simp only [vz_push]; omega⟩
  have sett : ∀ {pc1 : Nat} {ls1 : vL} {st1 : List Value} {a t : Nat} {l l1 : List Value}, h[a]? = some (t, l) → l1.length = l.length → some (pc1, ls1, st1, h.set a (t, l1)) = some y → h.length ≤ y.2.2.2.length ∧ vz h ≤ vz y.2.2.2 := fun ha hl hq => by
    cases hq
    refine ⟨by simp, ?_⟩
    show vz h ≤ vz (h.set _ _)
    rw [vz_set h _ _ _ ha (by exact hl)]
    exact Nat.le_refl _
  cases i <;> simp only [vstep] at hs <;> first
    | (cases hs; done)
    | exact same hs
    | exact jmp hs
    | exact psh hs
    | (repeat' (split at hs)) <;> first
      | (cases hs; done)
      | exact same hs
      | exact jmp hs
      | exact psh hs
      | exact sett (by assumption) (by simp) hs
      | (rename_i hc; exact sett (by assumption) (by unfold vcpy; simp; omega) hs)
theorem vexec_mono {f mi pc : Nat} {ls : vL} {st : List Value} {h h1 : vH} {v : Option Value} (hs : vexec f mi pc ls st h = some (v, h1)) : h.length ≤ h1.length ∧ vz h ≤ vz h1 := by
  induction f generalizing mi pc ls st h h1 v with
  | zero => cases hs
  | succ f ih =>
    unfold vexec at hs
    split at hs
    · cases hs
    · rename_i x hx
      split at hs
      · split at hs
        · cases hs
        · rename_i y hy
          have h1 := vstep_mono hy
          have h2 := ih hs
          exact ⟨Nat.le_trans h1.1 h2.1, Nat.le_trans h1.2 h2.2⟩
      · rw [vretv_h hs]
        exact ⟨Nat.le_refl _, Nat.le_refl _⟩
      · split at hs
        · cases hs
        · split at hs
          · cases hs
          · rename_i v1 h2 hv1
            have g1 := ih hv1
            have g2 := ih hs
            exact ⟨Nat.le_trans g1.1 g2.1, Nat.le_trans g1.2 g2.2⟩
theorem vcall_spec {mi : Nat} {x : vI} {st as r : List Value} {h : vH} (hc : vcall mi x st h = some (as, r)) : st = as.reverse ++ r ∧ as.length = x.2.2.2 ∧ r.length ≤ 4 ∧ vrk x.2.2.1 < vrk mi ∧ vrecv x as h = true ∧ ∀ v ∈ as, v.category = 1 := by
  unfold vcall at hc
  split at hc
  · rename_i hq
    obtain ⟨h1, h2, h3, h4, h5⟩ := hq
    cases hc
    refine ⟨by rw [List.reverse_reverse, List.take_append_drop], by rw [List.length_reverse, List.length_take]; omega, h2, h3, h4, fun v hv => ?_⟩
    have := List.all_eq_true.mp h5 v (List.mem_reverse.mp hv)
    simpa using this
  · cases hc
def vPc (D : va_G) (cA : Nat → ClassId) (sb b : Nat) (as : List Value) (h : vH) : Array Value → State → Prop := fun v U => v = (as.map (vsh sb b)).toArray ∧ vHR D cA sb b U h U.heap ∧ vKn D cA U
def vQc (D : va_G) (cA : Nat → ClassId) (sb b : Nat) (v : Option Value) (h : vH) : Array Value → State → Outcome → State → Prop := fun _ st oc t => oc = .returned (v.map (vsh sb b)) ∧ vHR D cA sb b t h t.heap ∧ va_F (vFr b) st t
def vrm (r lo mc ms : Nat) : Room := { frames := r, cells := mc, slots := ms, locals := lo }
def vws (mi : Nat) : List Cond := Cond.code (vy mi) (vbytes mi) (vmaxL mi) (vret mi) :: vWS
theorem vgood_ok {w : Cond} (h : w ∈ vWS) : (w.onTables && w.keeps) = true ∨ ∃ ty, w = .arrayClass ty := by
  have h1 := (List.mem_filter.mp h).2
  unfold vgood at h1
  rcases Bool.or_eq_true_iff.mp h1 with h2 | h2
  · exact Or.inl h2
  · right
    split at h2
    · exact ⟨_, rfl⟩
    · cases h2
theorem vgoodIn {mi : Nat} (hc : Cond.code (vy mi) (vbytes mi) (vmaxL mi) (vret mi) ∈ vWS) : GoodIn vWS (vws mi) := by
  intro w hw
  rcases List.mem_cons.mp hw with rfl | hw
  · exact ⟨hc, vgood_ok hc⟩
  · exact ⟨hw, vgood_ok hw⟩
theorem vHR_vm {D : va_G} {cA : Nat → ClassId} {sb b : Nat} {U V : State} {h : vH} {H : Heap} (e : U.vm = V.vm) (hh : vHR D cA sb b U h H) : vHR D cA sb b V h H := hh.moved (by rw [e]; exact Vm.Alike.refl V.vm)
theorem vPc_blind {D : va_G} {cA : Nat → ClassId} {sb b : Nat} {as : List Value} {h : vH} : FrameBlind (vPc D cA sb b as h) := by
  intro a U g mk hq
  obtain ⟨h1, h2, h3⟩ := hq
  refine ⟨h1, vHR_vm (U := U) (V := U.calling g mk a) rfl h2, va_K.moved (u := U) (U := U.calling g mk a) (Vm.Alike.refl U.vm) h3.1, fun w hw hn => ?_, h3.2.2.1.moved (u := U) (U := U.calling g mk a) (Vm.Alike.refl U.vm), h3.2.2.2.moved (u := U) (U := U.calling g mk a) (Vm.Alike.refl U.vm)⟩
  have h4 := h3.2.1 w hw hn
  cases w <;> first | exact va_Nw.same rfl (u := U) (U := U.calling g mk a) rfl h4 | (simp [vnest] at hn; done)
section VCALL
variable {p : Program} {l : Launch} {e : Env} {R : Room} {s : State} {m : MethodId} {args : Array Value} {below : List Frame} {meth : Method} {c : Code} {H : Heap} {locs : List Loc} {cells slots : Nat} {Q : State → Prop}
variable {D : va_G} {cA : Nat → ClassId} {sb b mi pc : Nat} {ls : vL} {st : List Value} {h : vH} {ars : Array Slot} {H0 : Heap}
theorem vW_call {mc ms : Nat} {v1 : Option Value} {h2 : vH} {a : Array Value} {st0 rest : List Value} (hr : va_Run p l e R s m args below meth c H locs cells slots mc ms (F0 m pc ars st0) rest (vQc D cA sb b v1 h2 a) (vFr b)) (hS : va_S (vFr b) H0 H locs)
    (kk : ∀ (H1 : Heap) (locs1 : List Loc), vHR D cA sb b s h2 H1 → va_S (vFr b) H0 H1 locs1 → W p l e R s m args below meth c H1 locs1 (cells + mc) (slots + ms) Q (F0 m (pc + 3) ars ((v1.map (vsh sb b)).toList ++ rest))) : W p l e R s m args below meth c H locs cells slots Q (F0 m pc ars st0) := by
  intro T hT X
  obtain ⟨v, st₀, t, T', L, h0, X', hL, e1, e2, ⟨hv, hh, hz, hk⟩, st⟩ := hr T hT X
  cases hv
  rw [h0] at hz hk
  have hAl : s.vm.Alike t.vm := by rw [← e2]; exact X'.warmed.alike
  obtain ⟨t2, a1, b1⟩ := kk T'.heap (locs ++ L) (by rw [e1]; exact hh.moved hAl.symm)
    ⟨Nat.le_trans hS.1 (by rw [e1]; exact hz), fun q h1 h2 => by rw [e1, hk q (Nat.lt_of_lt_of_le h1 hS.1) h2]; exact hS.2.1 q h1 h2, fun q hq => by
      rcases List.mem_append.mp hq with h | h
      · exact hS.2.2 q h
      · exact hL q h⟩ T' rfl X'
  exact ⟨t2, st t2 a1, b1⟩
/-- how a body ends -/
abbrev vEnd (p : Program) (l : Launch) (e : Env) (R : Room) (s : State) (m : MethodId) (args : Array Value) (below : List Frame) (meth : Method) (c : Code) (Q : State → Prop) (D : va_G) (cA : Nat → ClassId) (sb b mi : Nat) (H0 : Heap) (cells slots : Nat) (v : Option Value) (h : vH) : Prop :=
  ∀ (H1 : Heap) (locs1 : List Loc) (ars1 : Array Slot) (pc1 : Nat) (x : vI) (st1 : List Value), vcode mi pc1 = some x → vretv mi x st1 h = some (v, h) → vHR D cA sb b s h H1 → va_S (vFr b) H0 H1 locs1 → W p l e R s m args below meth c H1 locs1 cells slots Q (F0 m pc1 ars1 (st1.map (vsh sb b)))
end VCALL
/-- soundness at a fuel -/
def vSnd (l : Launch) (D : va_G) (cA : Nat → ClassId) (sb b f : Nat) : Prop :=
  ∀ {mi pc : Nat} {ls : vL} {st : List Value} {h h1 : vH} {v : Option Value}, vexec f mi pc ls st h = some (v, h1) →
  ∀ {p : Program} {e : Env} {R : Room} {s : State} {m : MethodId} {args : Array Value} {below : List Frame} {meth : Method} {c : Code} {H : Heap} {locs : List Loc} {cells slots : Nat} {Q : State → Prop} {H0 : Heap} {ars : Array Slot},
  vCx D cA mi p R s m args meth c → vLs sb b ars ls (vmaxL mi) → vHR D cA sb b s h H → va_S (vFr b) H0 H locs → cells + (h1.length - h.length) ≤ R.cells → slots + (vz h1 - vz h) ≤ R.slots →
  vEnd p l e R s m args below meth c Q D cA sb b mi H0 (cells + (h1.length - h.length)) (slots + (vz h1 - vz h)) v h1 →
  W p l e R s m args below meth c H locs cells slots Q (F0 m pc ars (st.map (vsh sb b)))
theorem vLs_entry {sb b : Nat} {as : List Value} {nL : Nat} (hc : ∀ v ∈ as, v.category = 1) (hn : as.length ≤ nL) : vLs sb b (((as.map (vsh sb b)).map Slot.val ++ List.replicate (nL - (as.map (vsh sb b)).length) Slot.unset).toArray) (as.map some ++ List.replicate (nL - as.length) none) nL := by
  have hcase : ∀ (i : Nat) (x : Slot), (((as.map (vsh sb b)).map Slot.val ++ List.replicate (nL - (as.map (vsh sb b)).length) Slot.unset).toArray)[i]? = some x → x = .unset ∨ ∃ v, x = .val v ∧ v.category = 1 := by
    intro i x hx
    rw [List.getElem?_toArray] at hx
    rcases List.mem_append.mp (List.mem_of_getElem? hx) with h1 | h1
    · right
      obtain ⟨w, hw, rfl⟩ := List.mem_map.mp h1
      obtain ⟨u, hu, rfl⟩ := List.mem_map.mp hw
      exact ⟨_, rfl, by rw [vsh_cat]; exact hc u hu⟩
    · left
      exact (List.mem_replicate.mp h1).2
  refine ⟨by simp; omega, by simp; omega, ⟨fun i v h1 h2 => ?_, fun i h1 => ?_⟩, fun i v hi => ?_⟩
  · rcases hcase i _ h1 with h3 | ⟨w, h3, h4⟩
    · cases h3
    · cases h3; omega
  · rcases hcase i _ h1 with h3 | ⟨w, h3, h4⟩
    · cases h3
    · cases h3
  · by_cases hl : i < as.length
    · rw [List.getElem?_append_left (by simpa using hl), List.getElem?_map, Option.map_eq_some_iff] at hi
      obtain ⟨w, hw, hwv⟩ := hi
      cases hwv
      refine ⟨?_, hc v (List.mem_of_getElem? hw)⟩
      rw [List.getElem?_toArray, List.getElem?_append_left (by simpa using hl), List.getElem?_map, List.getElem?_map, hw]
      rfl
    · rw [List.getElem?_append_right (by simpa using hl)] at hi
      have := (List.mem_replicate.mp (List.mem_of_getElem? hi)).2
      cases this
set_option maxHeartbeats 4000000 in
theorem vmet {l : Launch} {D : va_G} {cA : Nat → ClassId} {sb b f : Nat} (ih : vSnd l D cA sb b f) {cm : Nat} {as : List Value} {h h1 : vH} {v : Option Value} (hv : vexec f cm 0 (vinit cm as) [] h = some (v, h1)) (hcat : ∀ u ∈ as, u.category = 1) (hst : vstat cm) (hn : as.length ≤ vmaxL cm) : Met l (vy cm) (vws cm) (vrm (vrk cm) (vlo cm) (h1.length - h.length) (vz h1 - vz h)) (vPc D cA sb b as h) (vQc D cA sb b v h1) (h1.length - h.length) (vz h1 - vz h) (vFr b) := by
  obtain ⟨s1, s2, s3, -⟩ := hst
  refine Met.ofW (cc := vbytes cm) (maxL := vmaxL cm) (ret := vret cm) s1 rfl ?_
  intro p e s m args below meth c s₁ B hml hq
  obtain ⟨rfl, hHR, hK⟩ := hq
  have hts := atoms_spec (ws := vws cm) B.pre
  have hr := B.returns
  have hb := B.bytes
  have hx := B.exec
  have hown : s.vm.findClass (vown cm) = some m.cls := by rw [← s2]; exact findClass_of_methodNamed B.named
  have hlocks := B.notSynchronized
  have C : vCx D cA cm p (headSpec (vws cm) (vrm (vrk cm) (vlo cm) (h1.length - h.length) (vz h1 - vz h))).room s m (as.map (vsh sb b)).toArray meth c :=
    ⟨hx, hb, hml, hown, fun w hw => hts w (List.mem_cons_of_mem _ hw), hK, Nat.le_refl _, Nat.le_refl _, fun h2 => by rw [(name_of_methodNamed B.named B.method).1]; exact (s3 h2).1⟩
  rw [entry_eq m (as.map (vsh sb b)) (fun u hu => by obtain ⟨w, hw, rfl⟩ := List.mem_map.mp hu; rw [vsh_cat]; exact hcat w hw)]
  refine ih hv (st := []) C (vLs_entry hcat hn) hHR va_S.rf (by show 0 + _ ≤ h1.length - h.length; omega) (by show 0 + _ ≤ vz h1 - vz h; omega) ?_
  intro H1 locs1 ars1 pc1 x st1 hcode hret hHR1 hS1
  rw [Nat.zero_add, Nat.zero_add]
  have hd := vdec hcode
  obtain ⟨i, len, r1, r2⟩ := x
  unfold vretv at hret
  have fin : ∀ t : State, t.heap = H1 → s.WarmedH t.vm → vQc D cA sb b v h1 (as.map (vsh sb b)).toArray s (.returned (v.map (vsh sb b))) t := fun t ht hW => ⟨rfl, by rw [ht]; exact hHR1.moved hW.alike, hS1.F ht⟩
  split at hret
  · rename_i hi
    cases hi
    split at hret
    · rename_i hrr
      cases hret
      obtain rfl := vlen_of (n := 1) hcode rfl (by decide)
      exact W.vret hx hb (by rw [hr, hrr]) fin hS1.2.2 hd
    · cases hret
  · rename_i w hi
    cases hi
    obtain rfl := vlen_of (n := 1) hcode rfl (by decide)
    split at hret
    · rename_i hrr
      cases hret
      exact W.iret hx hb (by rw [hr, hrr]) fin hS1.2.2 hd
    · rename_i hrr
      split at hret
      · rename_i hw
        cases hret
        exact W.zret hx hb (by rw [hr, hrr]) (by rw [vand1, hw]) fin hS1.2.2 hd
      · cases hret
    · cases hret
  · rename_i w hi
    cases hi
    obtain rfl := vlen_of (n := 1) hcode rfl (by decide)
    split at hret
    · rename_i n hrr
      cases hret
      exact W.aret hx hb (by rw [hr, hrr]) (Or.inl ⟨_, rfl⟩) (Or.inr ⟨_, rfl⟩) fin hS1.2.2 hd
    · cases hret
  · rename_i hi
    cases hi
    obtain rfl := vlen_of (n := 1) hcode rfl (by decide)
    split at hret
    · rename_i n hrr
      cases hret
      exact W.aret hx hb (by rw [hr, hrr]) (Or.inl ⟨_, rfl⟩) (Or.inl rfl) fin hS1.2.2 hd
    · cases hret
  · cases hret
set_option maxHeartbeats 4000000 in
theorem vrun {l : Launch} {D : va_G} {cA : Nat → ClassId} {sb b f : Nat} (ih : vSnd l D cA sb b f) {mi pc : Nat} {st as r : List Value} {h h1 : vH} {v : Option Value} {x : vI} (hcode : vcode mi pc = some x) (hk : 2 ≤ vkind x) (hc : vcall mi x st h = some (as, r)) (hv : vexec f x.2.2.1 0 (vinit x.2.2.1 as) [] h = some (v, h1))
    {p : Program} {e : Env} {R : Room} {s : State} {m : MethodId} {args : Array Value} {below : List Frame} {meth : Method} {c : Code} {H : Heap} {locs : List Loc} {cells slots : Nat} {ars : Array Slot}
    (C : vCx D cA mi p R s m args meth c) (hL : ars.size = vmaxL mi) (hHR : vHR D cA sb b s h H) (hc1 : cells + (h1.length - h.length) ≤ R.cells) (hc2 : slots + (vz h1 - vz h) ≤ R.slots) :
    va_Run p l e R s m args below meth c H locs cells slots (h1.length - h.length) (vz h1 - vz h) (F0 m pc ars (st.map (vsh sb b))) (r.map (vsh sb b)) (vQc D cA sb b v h1 (as.map (vsh sb b)).toArray) (vFr b) := by
  obtain ⟨q1, q2, q3, q4, q5, q6⟩ := vcall_spec hc
  obtain ⟨hx, hb, hml, hown, hts, hK, hfr, hlo, hini⟩ := C
  obtain ⟨i, len, cm, na⟩ := x
  simp only at q2 q4 hv ⊢
  have hd := vdec hcode
  have hsum := vcat_sum sb b q3
  have hp : ∀ U : State, U.heap = H → s.WarmedH U.vm → vPc D cA sb b as h (as.map (vsh sb b)).toArray U := fun U hU hW => ⟨rfl, by rw [hU]; exact hHR.moved hW.alike, hK.warm hW⟩
  cases i with
  | invokevirtual idx =>
    obtain rfl := vlen_of (n := 3) hcode rfl (by decide)
    obtain ⟨o2, o1, hkd, k1, k2, k3, k4, o7⟩ := vok_inv hcode
    have ⟨_, _, _, o0, o6, o5, _, p3, p4⟩ := o1
    have o3 := p3 (by omega)
    obtain ⟨o4, o9⟩ := p4 hkd
    have hM := vmet ih hv q6 o1 (by omega)
    have hR : (vrm (vrk cm) (vlo cm) (h1.length - h.length) (vz h1 - vz h)).frames + 1 ≤ R.frames ∧ 8 + (vmaxL cm + 11) + (vrm (vrk cm) (vlo cm) (h1.length - h.length) (vz h1 - vz h)).locals ≤ R.locals := by
      refine ⟨?_, ?_⟩
      · show vrk cm + 1 ≤ _
        omega
      · show 8 + (vmaxL cm + 11) + vlo cm ≤ _
        omega
    unfold vrecv at q5
    cases as with
    | nil => cases q5
    | cons a0 as =>
      cases a0 with
      | ref a =>
        simp only at q5
        split at q5
        · rename_i t fs hfs
          have ht : t = vci cm := of_decide_eq_true q5
          subst ht
          obtain ⟨q, hq, hqn⟩ := o9
          have hrecv := va_recv (q0 := 0) hK.1 (va_one (vat_obj (hHR.2.2.2 a _ hfs).2 (vcl_lt hq)).1) hq rfl
          rw [hqn] at hrecv
          have hstk : st.map (vsh sb b) = (as.map (vsh sb b)).reverse ++ .ref (vrho sb b a) :: r.map (vsh sb b) := by
            rw [q1]
            simp [vsh]
          have hlen : (as.map (vsh sb b)).length = na - 1 := by
            rw [List.length_map]
            simp only [List.length_cons] at q2
            omega
          rcases o2 with o2 | ⟨host, o2⟩
          · exact va_runV (Ts := vWS) (n := na - 1) ⟨hx, hb, hml, hown, hts⟩ hM ⟨callB_of (na - 1) hts (vgoodIn o6) rfl rfl rfl (hts _ o5) (hts _ o2) ⟨o0.1, o0.2, o7⟩ hR, hts _ o3, hts _ o4⟩ ⟨vPc_blind, hrecv, hp⟩ rfl hlen hL hstk (by show 2 * 0 + _ ≤ 8; omega) hd ⟨hc1, hc2⟩
          · exact va_runVN (Ts := vWS) (n := na - 1) ⟨hx, hb, hml, hown, hts⟩ hM ⟨va_cnB (na - 1) hts (vgoodIn o6) rfl rfl rfl (hK.2.1 _ o2 rfl) (hts _ o5) ⟨o0.1, o0.2, o7⟩ hR, hts _ o3, hts _ o4⟩ ⟨vPc_blind, hrecv, hp⟩ rfl hlen hL hstk (by show 2 * 0 + _ ≤ 8; omega) hd ⟨hc1, hc2⟩
        · cases q5
      | _ => cases q5
  | invokestatic idx =>
    obtain rfl := vlen_of (n := 3) hcode rfl (by decide)
    have hcm : cm < 1000 := Nat.not_le.mp fun hq => by simp [vkind, hq] at hk
    obtain ⟨o2, o1, hkd, k2, k3, k4, o7⟩ := vok_stat hcode hcm
    have ⟨_, _, _, o0, o6, o5, p2, _, _⟩ := o1
    have o3 := p2 hkd
    have hM := vmet ih hv q6 o1 (by omega)
    have hR : (vrm (vrk cm) (vlo cm) (h1.length - h.length) (vz h1 - vz h)).frames + 1 ≤ R.frames ∧ 8 + (vmaxL cm + 11) + (vrm (vrk cm) (vlo cm) (h1.length - h.length) (vz h1 - vz h)).locals ≤ R.locals := by
      refine ⟨?_, ?_⟩
      · show vrk cm + 1 ≤ _
        omega
      · show 8 + (vmaxL cm + 11) + vlo cm ≤ _
        omega
    have hstk : st.map (vsh sb b) = (as.map (vsh sb b)).reverse ++ r.map (vsh sb b) := by
      rw [q1]
      simp
    rcases o2 with o2 | ⟨host, o2⟩
    · exact va_runS (Ts := vWS) (n := na) ⟨hx, hb, hml, hown, hts⟩ hM ⟨callB_of na hts (vgoodIn o6) rfl rfl rfl (hts _ o5) (hts _ o2) ⟨o0.1, o0.2, o7⟩ hR, hts _ o3⟩ ⟨vPc_blind, hp⟩ rfl (by rw [List.length_map]; exact q2) hL hstk (by show 2 * 0 + _ ≤ 8; omega) hd ⟨hc1, hc2⟩
    · exact va_runSN (Ts := vWS) (n := na) ⟨hx, hb, hml, hown, hts⟩ hM ⟨va_cnB na hts (vgoodIn o6) rfl rfl rfl (hK.2.1 _ o2 rfl) (hts _ o5) ⟨o0.1, o0.2, o7⟩ hR, hts _ o3, trivial⟩ ⟨vPc_blind, hp⟩ rfl (by rw [List.length_map]; exact q2) hL hstk (by show 2 * 0 + _ ≤ 8; omega) hd ⟨hc1, hc2⟩
  | invokespecial idx =>
    obtain rfl := vlen_of (n := 3) hcode rfl (by decide)
    have hcm : cm < 1000 := Nat.not_le.mp fun hq => by simp [vkind, hq] at hk
    obtain ⟨o2, o1, hkd, k1, k2, k3, k4, o7⟩ := vok_spec hcode hcm
    have ⟨_, _, p1, o0, o6, o5, _, p3, _⟩ := o1
    have o3 := p3 (by omega)
    obtain ⟨o4, o9⟩ := p1 hkd
    have hM := vmet ih hv q6 o1 (by omega)
    have hR : (vrm (vrk cm) (vlo cm) (h1.length - h.length) (vz h1 - vz h)).frames + 1 ≤ R.frames ∧ 8 + (vmaxL cm + 11) + (vrm (vrk cm) (vlo cm) (h1.length - h.length) (vz h1 - vz h)).locals ≤ R.locals := by
      refine ⟨?_, ?_⟩
      · show vrk cm + 1 ≤ _
        omega
      · show 8 + (vmaxL cm + 11) + vlo cm ≤ _
        omega
    unfold vrecv at q5
    cases as with
    | nil => cases q5
    | cons a0 as =>
      cases a0 with
      | ref a =>
        have hstk : st.map (vsh sb b) = (as.map (vsh sb b)).reverse ++ .ref (vrho sb b a) :: r.map (vsh sb b) := by
          rw [q1]
          simp [vsh]
        have hlen : (as.map (vsh sb b)).length = na - 1 := by
          rw [List.length_map]
          simp only [List.length_cons] at q2
          omega
        have o6' : GoodIn vWS (vws cm) := vgoodIn o6
        unfold vws at o6' hM
        rw [o9] at o6' hM
        rcases o2 with o2 | ⟨host, o2⟩
        · exact va_runI (Ts := vWS) (n := na - 1) ⟨hx, hb, hml, hown, hts⟩ hM ⟨callB_of (na - 1) hts o6' rfl rfl rfl (hts _ o5) (hts _ o2) ⟨o0.1, o0.2, o7⟩ hR, o4, hts _ o3⟩ ⟨vPc_blind, hp⟩ rfl hlen hL hstk (by show 2 * 0 + _ ≤ 8; omega) hd ⟨hc1, hc2⟩
        · exact va_runIN (Ts := vWS) (n := na - 1) ⟨hx, hb, hml, hown, hts⟩ hM ⟨va_cnB (na - 1) hts o6' rfl rfl rfl (hK.2.1 _ o2 rfl) (hts _ o5) ⟨o0.1, o0.2, o7⟩ hR, o4, hts _ o3⟩ ⟨vPc_blind, hp⟩ rfl hlen hL hstk (by show 2 * 0 + _ ≤ 8; omega) hd ⟨hc1, hc2⟩
      | _ => cases q5
  | _ => exact absurd hk (by simp [vkind])
set_option maxHeartbeats 4000000 in
theorem vexec_snd (l : Launch) (D : va_G) (cA : Nat → ClassId) (sb b : Nat) : ∀ f, vSnd l D cA sb b f := by
  intro f
  induction f with
  | zero => intro mi pc ls st h h1 v hs; cases hs
  | succ f ih =>
    intro mi pc ls st h h1 v hs p e R s m args below meth c H locs cells slots Q H0 ars C hL hHR hS hc1 hc2 kk
    unfold vexec at hs
    split at hs
    · cases hs
    · rename_i x hx
      split at hs
      · rename_i hkd
        split at hs
        · cases hs
        · rename_i y hy
          have m1 := vstep_mono hy
          have m2 := vexec_mono hs
          refine vstep_snd C hx hkd hy hL hHR hS (by omega) (by omega) ?_
          intro H1 locs1 ars1 cells1 slots1 e1 e2 hL1 hHR1 hS1
          refine ih hs C hL1 hHR1 hS1 (by omega) (by omega) ?_
          rw [show cells1 + (h1.length - y.2.2.2.length) = cells + (h1.length - h.length) by omega, show slots1 + (vz h1 - vz y.2.2.2) = slots + (vz h1 - vz h) by omega]
          exact kk
      · rename_i hkd
        have e1 := vretv_h hs
        subst e1
        simp only [Nat.sub_self, Nat.add_zero] at kk
        exact kk H locs ars pc x st hx hs hHR hS
      · rename_i hk0 hk1
        split at hs
        · cases hs
        · rename_i as r hc
          split at hs
          · cases hs
          · rename_i v1 h2 hv1
            have m1 := vexec_mono hv1
            have m2 := vexec_mono hs
            have hk : 2 ≤ vkind x := by
              have : vkind x ≠ 0 := hk0
              have : vkind x ≠ 1 := hk1
              omega
            refine vW_call (vrun ih hx hk hc hv1 C hL.1 hHR (by omega) (by omega)) hS ?_
            intro H1 locs1 hHR1 hS1
            have e3 : (v1.map (vsh sb b)).toList ++ r.map (vsh sb b) = (v1.toList ++ r).map (vsh sb b) := by cases v1 <;> simp
            rw [e3]
            refine ih hs C hL hHR1 hS1 (by omega) (by omega) ?_
            rw [show cells + (h2.length - h.length) + (h1.length - h2.length) = cells + (h1.length - h.length) by omega, show slots + (vz h2 - vz h) + (vz h1 - vz h2) = slots + (vz h1 - vz h) by omega]
            exact kk
