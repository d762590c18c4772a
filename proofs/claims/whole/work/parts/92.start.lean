/-! THE CLAIM OUT OF ONE WALK OF THE LAW'S BODY. Your part is whole_start (and what it stands on); all else here is the same for every law, but numbers. -/
def R_law : String := "PackStoreLaw"
def lw_P (b : Addr) (xs : List Int32) (args : Array Value) (s : State) : Prop := args = #[.ref b] ∧ s.IntsAt b xs ∧ xs.length ≤ 2048 ∧ (Jvm.Cond.and given_1 narrow_1).before args s = true
def lw_Q (_ : Array Value) (s : State) (o : Outcome) (t : State) : Prop := o = .returned (some (.int 1)) ∧ Framed s o t [] 600000 7302250
def lw_Z (below : List Frame) (a : Array Value) (s : State) : State → Prop := fun t => ∃ o, t.status = .running ∧ Ended t below o ∧ lw_Q a s o t
/-- the law's own end, with 1 on the stack, nothing written that was there before, its room as the claim has it -/
theorem lw_ret {p : Program} {l : Launch} {e : Env} {s : State} {m : MethodId} {below : List Frame} {meth : Method} {c : Code} {b : Nat} (hx : p.tables.exec = Jvm.exec) (hb : c.code = code) (hr : meth.sig.returnType = ret) (hlocks : meth.locks = false) {pc : Nat} {H : Heap} {ls : Array Slot} (hdg : decode code pc = .ok (.ireturn, 1)) : W p l e room_1 s m #[Value.ref b] below meth c H [] 600000 7302250 (lw_Z below #[Value.ref b] s) (F0 m pc ls [.int 1]) := by
  intro T hT X
  obtain ⟨fs, hret, hrun, hended, hW, hframe⟩ := X.leave (v := some (.int 1)) (hlocks := hlocks) (fun h => by rw [hr] at h; cases h)
  have hmeth' : T.vm.method? m = some meth := X.method'
  refine ⟨T.setFrames fs, ?_, .returned (some (.int 1)), hrun, hended, rfl, ⟨_, rfl⟩, hW, hframe⟩
  jvm_step X.here [X.here.top, hx, hb, hdg, hmeth', hr, ret, narrow_b1]
  (try refine ⟨rfl, ?_⟩); (try refine ⟨rfl, ?_⟩)
  first | (intro acts; rw [hret _ acts rfl rfl rfl]) | rw [hret _ _ rfl rfl rfl]
  exact Steps.refl _
/-- what holds at the law's entry: the machine, the code, the tables' words (any of lw_tbl by 'hts w (by decide +kernel)'), the script of L ints xs at the cell b, what the Statement gives of the start (any of its parts by flat_of_before) -/
def lw_At (p : Program) (s : State) (m : MethodId) (meth : Method) (c : Code) (b L : Nat) (xs : Nat → Int32) : Prop :=
  p.tables.exec = Jvm.exec ∧ c.code = code ∧ meth.sig.returnType = ret ∧ c.maxLocals = 4 ∧ s.vm.findClass R_law = some m.cls ∧ (∀ w ∈ lw_tbl, w.before #[Value.ref b] s = true) ∧ va_X b L xs s s.heap ∧ b < s.heap.size ∧ meth.locks = false ∧ (Jvm.Cond.and given_1 narrow_1).before #[Value.ref b] s = true
set_option maxHeartbeats 4000000 in
/-- from the entry, for every script of at most 2048 ints, the law comes to its end with true -/
theorem whole_start {p : Program} {e : Env} {s : State} {m : MethodId} {below : List Frame} {meth : Method} {c : Code} (l : Launch) {b L : Nat} {xs : Nat → Int32} (hL : L ≤ 2048) (C0 : lw_At p s m meth c b L xs) : W p l e room_1 s m #[Value.ref b] below meth c s.heap [] 0 0 (lw_Z below #[Value.ref b] s) (entryFrame m ([Value.ref b] : List Value).toArray 4) := by
  obtain ⟨hx, hb, hr, hml, hown, hts, hX, hbl, hlocks, hgv⟩ := C0
  obtain ⟨xl, hxl⟩ : ∃ xl : List Int32, xl = (List.range L).map xs := ⟨_, rfl⟩
  have xll : xl.length = L := by rw [hxl, List.length_map, List.length_range]
  have hX2 : va_X b xl.length (fun j => xl.getD j 0) s s.heap := by
    obtain ⟨scr, h1, h2, h3, h4, h5⟩ := hX
    refine ⟨scr, h1, h2, h3, by rw [xll]; exact h4, fun j hj => ?_⟩
    rw [xll] at hj
    rw [h5 j hj]
    have : xl.getD j 0 = xs j := by rw [hxl, List.getD_eq_getElem?_getD, List.getElem?_map, List.getElem?_range hj]; rfl
    exact congrArg (fun z => some (Value.int z)) this.symm
  obtain ⟨f, H, hv, hHl, hHz⟩ := law_run xl (by omega)
  obtain ⟨D, cA, hK⟩ := vknown hts
  have hws : ∀ w ∈ vWS, w.before #[Value.ref b] s = true := fun w hw => hts w (List.mem_filter.mp hw).1
  have C : vCx D cA 166 p room_1 s m #[Value.ref b] meth c := ⟨hx, hb, hml, hown, hws, hK, by decide +kernel, by decide +kernel, fun q => absurd q (by decide +kernel)⟩
  have hHR : vHR D cA b s.heap.size s [(104, xl.map Value.int)] s.heap := by
    refine ⟨rfl, hbl, by simp, fun k c2 hk => ?_⟩
    cases k with
    | zero =>
      cases hk
      refine ⟨⟨fun _ => rfl, fun _ => rfl⟩, ?_⟩
      unfold vAt
      rw [if_neg (by simp), if_pos rfl]
      exact ⟨xl, rfl, hX2⟩
    | succ k => simp at hk
  have hcat : ∀ u ∈ ([Value.ref 0] : List Value), u.category = 1 := fun u hu => by
    rw [List.mem_singleton.mp hu]
    rfl
  show W p l e room_1 s m #[Value.ref b] below meth c s.heap [] 0 0 (lw_Z below #[Value.ref b] s) (entryFrame m (([Value.ref 0] : List Value).map (vsh b s.heap.size)).toArray (vmaxL 166))
  rw [entry_eq m (([Value.ref 0] : List Value).map (vsh b s.heap.size)) (fun u hu => by obtain ⟨w, hw, rfl⟩ := List.mem_map.mp hu; rw [vsh_cat]; exact hcat w hw)]
  refine vexec_snd l D cA b s.heap.size f hv (st := []) C (vLs_entry hcat (by decide +kernel)) hHR va_S.rf (by rw [hHl]; show 0 + (267 - 1) ≤ 600000; omega) (by show 0 + (vz H - _) ≤ 7302250; omega) ?_
  intro H1 locs1 ars1 pc1 x st1 hcode hret hHR1 hS1
  refine va_forget (fun q hq => hS1.2.2 q hq) ?_
  refine W.widen (k := 600000) (n := 7302250) (by rw [hHl]; show 0 + (267 - 1) ≤ 600000; omega) (by show 0 + (vz H - _) ≤ 7302250; omega) ?_
  have hd := vdec hcode
  obtain ⟨i, len, r1, r2⟩ := x
  unfold vretv at hret
  split at hret
  · split at hret
    · cases hret
    · cases hret
  · rename_i w hi
    cases hi
    obtain rfl := vlen_of (n := 1) hcode rfl (by decide)
    split at hret
    · cases hret
      exact lw_ret hx hb hr hlocks hd
    · split at hret
      · cases hret
        exact lw_ret hx hb hr hlocks hd
      · cases hret
    · cases hret
  · split at hret
    · cases hret
    · cases hret
  · split at hret
    · cases hret
    · cases hret
  · cases hret
