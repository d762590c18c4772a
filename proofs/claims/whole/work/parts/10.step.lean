/-! one step of the small machine is one step of the machine -/
def vtys (cA : Nat → ClassId) : List (ClassId × FieldType) := [(cA 100, .int), (cA 101, .boolean), (cA 102, .object (vcn 102)), (cA 103, .object (vcn 103))]
def vKn (D : va_G) (cA : Nat → ClassId) (U : State) : Prop := va_K D vcl (vtys cA) U ∧ (∀ w ∈ lw_tbl, vnest w = true → va_Nw w U) ∧ va_AO (vcn 102) U ∧ va_AO (vcn 103) U
theorem vKn.warm {D : va_G} {cA : Nat → ClassId} {s U : State} (hW : s.WarmedH U.vm) (h : vKn D cA s) : vKn D cA U := by
  refine ⟨va_K.moved hW.alike h.1, fun w hw hn => ?_, h.2.2.1.moved hW.alike, h.2.2.2.moved hW.alike⟩
  have h1 := h.2.1 w hw hn
  cases w <;> first | exact va_Nw.warmF hW h1 | exact va_Nw.warmM hW h1 | (simp [vnest] at hn; done)
def vCx (D : va_G) (cA : Nat → ClassId) (mi : Nat) (p : Program) (R : Room) (s : State) (m : MethodId) (args : Array Value) (meth : Method) (c : Code) : Prop :=
  p.tables.exec = Jvm.exec ∧ c.code = vbytes mi ∧ c.maxLocals = vmaxL mi ∧ s.vm.findClass (vown mi) = some m.cls ∧ (∀ w ∈ vWS, w.before args s = true) ∧ vKn D cA s ∧ vrk mi ≤ R.frames ∧ vlo mi ≤ R.locals ∧ (vkd mi = 2 → meth.name = "<init>")
abbrev vFr (b : Nat) : Nat → Prop := fun q => b ≤ q
section VSTEP
variable {p : Program} {l : Launch} {e : Env} {R : Room} {s : State} {m : MethodId} {args : Array Value} {below : List Frame} {meth : Method} {c : Code} {H : Heap} {locs : List Loc} {cells slots : Nat} {Q : State → Prop}
variable {D : va_G} {cA : Nat → ClassId} {sb b mi pc : Nat} {ls : vL} {st : List Value} {h : vH} {ars : Array Slot} {H0 : Heap}
theorem vat_obj {k t : Nat} {fs : List Value} (ha : vAt D cA sb b s k (t, fs) H) (ht : t < 50) : va_at D vcl (vrho sb b k, .inr (t, fs.map (vsh sb b))) H ∧ ∀ q, vcl[t]? = some q → fs.length = q.2.2 := by
  unfold vAt at ha
  rw [if_pos ht] at ha
  exact ha
theorem vat_int {k t : Nat} {fs : List Value} (ha : vAt D cA sb b s k (t, fs) H) (ht : t = 100 ∨ t = 101) : ∃ xs : List Int32, fs = xs.map Value.int ∧ H[vrho sb b k]? = some (arrV (cA t) xs.length (fun j => .int (xs.getD j 0))) := by
  unfold vAt at ha
  rw [if_neg (by simp only; omega), if_neg (by simp only; omega), if_pos (by simp only; omega)] at ha
  exact ha
theorem vat_scr {k : Nat} {fs : List Value} (ha : vAt D cA sb b s k (104, fs) H) : ∃ xs : List Int32, fs = xs.map Value.int ∧ va_X (vrho sb b k) xs.length (fun j => xs.getD j 0) s H := by
  unfold vAt at ha
  rw [if_neg (by simp only; omega), if_pos rfl] at ha
  exact ha
theorem vat_ref {k t : Nat} {fs : List Value} (ha : vAt D cA sb b s k (t, fs) H) (ht : t = 102 ∨ t = 103) : H[vrho sb b k]? = some (arrV (cA t) fs.length (fun j => vsh sb b (fs.getD j .null))) := by
  unfold vAt at ha
  rw [if_neg (by simp only; omega), if_neg (by simp only; omega), if_neg (by simp only; omega)] at ha
  exact ha
theorem vlinkF_use {own : String} {idx : Nat} {q : vw_C} {k : Nat} (hts : ∀ w ∈ vWS, w.before args s = true) (hK : vKn D cA s) (h : vlinkF own idx q k) : (Cond.fieldLink own idx (q.2.1 k).1 (q.2.1 k).2.1 (q.2.1 k).2.2.1).before args s = true ∨ ∃ host, (Cond.fieldLinkNest own idx (q.2.1 k).1 (q.2.1 k).2.1 (q.2.1 k).2.2.1 host).before args s = true := by
  rcases h with h | ⟨host, h⟩
  · exact Or.inl (hts _ h)
  · exact Or.inr ⟨host, va_Nw.use rfl (hK.2.1 _ h rfl)⟩
end VSTEP
