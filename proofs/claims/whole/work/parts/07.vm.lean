/-! the small machine: cells are (tag, contents), a reference is a place in the list; tag 104 at place 0: the script -/
def vld (ls : vL) (i : Nat) : Option Value := match ls[i]? with
  | some (some v) => some v
  | _ => none
def vst (ls : vL) (i : Nat) (v : Value) : vL := ls.set i (some v)
def vcmp (c : Jvm.ClassFile.Cond) (x y : Int32) : Bool := match c with
  | .eq => decide (x = y)
  | .ne => decide (¬ x = y)
  | .lt => decide (x < y)
  | .ge => decide (y ≤ x)
  | .gt => decide (y < x)
  | .le => decide (x ≤ y)
def vfit (t k : Nat) (v : Value) : Bool := decide (narrow (vty t k) v = v) && fits (vty t k) v
def vtgt (pc : Nat) (off : Int) : Nat := ((pc : Int) + off).toNat
def vjump (pc : Nat) (off : Int) (ls : vL) (st : List Value) (h : vH) : Option vS := if 0 ≤ (pc : Int) + off then some (vtgt pc off, ls, st, h) else none
def vcpy (f g : List Value) (sp dp n : Nat) : List Value := g.take dp ++ (f.drop sp).take n ++ g.drop (dp + n)
/-- one step that is no call into the tables' methods and no return -/
def vstep (x : vI) (pc : Nat) (ls : vL) (st : List Value) (h : vH) : Option vS :=
  match x.1 with
  | .iconst n => some (pc + 1, ls, .int (Int32.ofInt n) :: st, h)
  | .bipush n => some (pc + 2, ls, .int (Int8.ofInt n).toInt32 :: st, h)
  | .sipush n => some (pc + 3, ls, .int (Int16.ofInt n).toInt32 :: st, h)
  | .ldc _ => some (pc + 2, ls, .int (Int32.ofNat x.2.2.1) :: st, h)
  | .ldc_w _ => some (pc + 3, ls, .int (Int32.ofNat x.2.2.1) :: st, h)
  | .aconst_null => some (pc + 1, ls, .null :: st, h)
  | .iload i => match vld ls i with
    | some (.int v) => some (pc + 2, ls, .int v :: st, h)
    | _ => none
  | .iload_n k => match vld ls k.val with
    | some (.int v) => some (pc + 1, ls, .int v :: st, h)
    | _ => none
  | .aload i => match vld ls i with
    | some (.ref v) => some (pc + 2, ls, .ref v :: st, h)
    | some .null => some (pc + 2, ls, .null :: st, h)
    | _ => none
  | .aload_n k => match vld ls k.val with
    | some (.ref v) => some (pc + 1, ls, .ref v :: st, h)
    | some .null => some (pc + 1, ls, .null :: st, h)
    | _ => none
  | .istore i => match st with
    | .int v :: r => if i < ls.length then some (pc + 2, vst ls i (.int v), r, h) else none
    | _ => none
  | .istore_n k => match st with
    | .int v :: r => if k.val < ls.length then some (pc + 1, vst ls k.val (.int v), r, h) else none
    | _ => none
  | .astore i => match st with
    | .ref v :: r => if i < ls.length then some (pc + 2, vst ls i (.ref v), r, h) else none
    | .null :: r => if i < ls.length then some (pc + 2, vst ls i .null, r, h) else none
    | _ => none
  | .astore_n k => match st with
    | .ref v :: r => if k.val < ls.length then some (pc + 1, vst ls k.val (.ref v), r, h) else none
    | .null :: r => if k.val < ls.length then some (pc + 1, vst ls k.val .null, r, h) else none
    | _ => none
  | .iinc i n => match vld ls i with
    | some (.int v) => some (pc + 3, vst ls i (.int (v + Int32.ofInt n)), st, h)
    | _ => none
  | .iadd => match st with
    | .int y :: .int x :: r => some (pc + 1, ls, .int (x + y) :: r, h)
    | _ => none
  | .isub => match st with
    | .int y :: .int x :: r => some (pc + 1, ls, .int (x - y) :: r, h)
    | _ => none
  | .imul => match st with
    | .int y :: .int x :: r => some (pc + 1, ls, .int (x * y) :: r, h)
    | _ => none
  | .iand => match st with
    | .int y :: .int x :: r => some (pc + 1, ls, .int (x &&& y) :: r, h)
    | _ => none
  | .ishr => match st with
    | .int y :: .int x :: r => some (pc + 1, ls, .int (x >>> (y &&& 31)) :: r, h)
    | _ => none
  | .idiv => match st with
    | .int y :: .int x :: r => if y = 0 then none else some (pc + 1, ls, .int (x / y) :: r, h)
    | _ => none
  | .irem => match st with
    | .int y :: .int x :: r => if y = 0 then none else some (pc + 1, ls, .int (x - x / y * y) :: r, h)
    | _ => none
  | .dup => match st with
    | .int v :: r => some (pc + 1, ls, .int v :: .int v :: r, h)
    | .ref v :: r => some (pc + 1, ls, .ref v :: .ref v :: r, h)
    | _ => none
  | .pop => match st with
    | .int _ :: r => some (pc + 1, ls, r, h)
    | .ref _ :: r => some (pc + 1, ls, r, h)
    | _ => none
  | .ifCond c off => match st with
    | .int v :: r => if vcmp c v 0 = true then vjump pc off ls r h else some (pc + 3, ls, r, h)
    | _ => none
  | .if_icmp c off => match st with
    | .int y :: .int v :: r => if vcmp c v y = true then vjump pc off ls r h else some (pc + 3, ls, r, h)
    | _ => none
  | .ifnull off => match st with
    | .ref _ :: r => some (pc + 3, ls, r, h)
    | .null :: r => vjump pc off ls r h
    | _ => none
  | .ifnonnull off => match st with
    | .ref _ :: r => vjump pc off ls r h
    | .null :: r => some (pc + 3, ls, r, h)
    | _ => none
  | .goto off => vjump pc off ls st h
  | .tableswitch d lo hi offs => match st with
    | .int v :: r => if v.toInt < lo ∨ hi < v.toInt then vjump pc d ls r h else match offs[(v.toInt - lo).toNat]? with
      | some off => vjump pc off ls r h
      | none => none
    | _ => none
  | .lookupswitch d ps => match st with
    | .int v :: r => if (ps.toList.zip (ps.toList.drop 1)).all (fun (a, next) => a.1 < next.1) = true then vjump pc (Op.lookupswitch.offset ps.toList d v.toInt) ls r h else none
    | _ => none
  | .getfield _ => match st with
    | .ref a :: r => match h[a]? with
      | some (t, l) => if t = x.2.2.1 then match l[x.2.2.2]? with
        | some v => some (pc + 3, ls, v :: r, h)
        | none => none
        else none
      | none => none
    | _ => none
  | .putfield _ => match st with
    | v :: .ref a :: r => match h[a]? with
      | some (t, l) => if t = x.2.2.1 ∧ x.2.2.2 < l.length ∧ vfit t x.2.2.2 v = true then some (pc + 3, ls, r, h.set a (t, l.set x.2.2.2 v)) else none
      | none => none
    | _ => none
  | .iaload => match st with
    | .int i :: .ref a :: r => match h[a]? with
      | some (t, l) => if (t = 100 ∨ t = 104) ∧ ¬ i < 0 then match l[i.toNatClampNeg]? with
        | some v => some (pc + 1, ls, v :: r, h)
        | none => none
        else none
      | none => none
    | _ => none
  | .baload => match st with
    | .int i :: .ref a :: r => match h[a]? with
      | some (t, l) => if t = 101 ∧ ¬ i < 0 then match l[i.toNatClampNeg]? with
        | some v => some (pc + 1, ls, v :: r, h)
        | none => none
        else none
      | none => none
    | _ => none
  | .aaload => match st with
    | .int i :: .ref a :: r => match h[a]? with
      | some (t, l) => if (t = 102 ∨ t = 103) ∧ ¬ i < 0 then match l[i.toNatClampNeg]? with
        | some v => some (pc + 1, ls, v :: r, h)
        | none => none
        else none
      | none => none
    | _ => none
  | .iastore => match st with
    | .int v :: .int i :: .ref a :: r => match h[a]? with
      | some (t, l) => if t = 100 ∧ ¬ i < 0 ∧ i.toNatClampNeg < l.length then some (pc + 1, ls, r, h.set a (t, l.set i.toNatClampNeg (.int v))) else none
      | none => none
    | _ => none
  | .bastore => match st with
    | .int v :: .int i :: .ref a :: r => match h[a]? with
      | some (t, l) => if t = 101 ∧ ¬ i < 0 ∧ i.toNatClampNeg < l.length then some (pc + 1, ls, r, h.set a (t, l.set i.toNatClampNeg (.int (v &&& 1)))) else none
      | none => none
    | _ => none
  | .aastore => match st with
    | .ref v :: .int i :: .ref a :: r => match h[a]?, h[v]? with
      | some (t, l), some (tv, _) => if (t = 102 ∨ t = 103) ∧ tv = vcomp t ∧ ¬ i < 0 ∧ i.toNatClampNeg < l.length then some (pc + 1, ls, r, h.set a (t, l.set i.toNatClampNeg (.ref v))) else none
      | _, _ => none
    | _ => none
  | .arraylength => match st with
    | .ref a :: r => match h[a]? with
      | some (t, l) => if 100 ≤ t ∧ t ≤ 104 then some (pc + 1, ls, .int (Int32.ofNat l.length) :: r, h) else none
      | none => none
    | _ => none
  | .new _ => some (pc + 3, ls, .ref h.length :: st, h ++ [(x.2.2.1, vdef x.2.2.1)])
  | .newarray t => match st with
    | .int n :: r => if ¬ n < 0 ∧ n.toNatClampNeg ≤ 100000 then match t with
      | .int => some (pc + 2, ls, .ref h.length :: r, h ++ [(100, List.replicate n.toNatClampNeg (.int 0))])
      | .boolean => some (pc + 2, ls, .ref h.length :: r, h ++ [(101, List.replicate n.toNatClampNeg (.int 0))])
      | _ => none
      else none
    | _ => none
  | .anewarray _ => match st with
    | .int n :: r => if (x.2.2.1 = 102 ∨ x.2.2.1 = 103) ∧ ¬ n < 0 ∧ n.toNatClampNeg ≤ 100000 then some (pc + 3, ls, .ref h.length :: r, h ++ [(x.2.2.1, List.replicate n.toNatClampNeg .null)]) else none
    | _ => none
  | .invokespecial _ => match st with
    | .ref _ :: r => if x.2.2.1 = 1000 ∧ r.length ≤ 4 then some (pc + 3, ls, r, h) else none
    | _ => none
  | .invokestatic _ => match st with
    | .int n :: .int dp :: .ref d :: .int sp :: .ref s0 :: r => if x.2.2.1 = 1001 ∧ r.length ≤ 4 then match h[s0]?, h[d]? with
      | some (ts, f), some (td, g) => if ts = 100 ∧ td = 100 ∧ ¬ sp < 0 ∧ ¬ dp < 0 ∧ ¬ n < 0 ∧ sp.toNatClampNeg + n.toNatClampNeg ≤ f.length ∧ dp.toNatClampNeg + n.toNatClampNeg ≤ g.length then some (pc + 3, ls, r, h.set d (td, vcpy f g sp.toNatClampNeg dp.toNatClampNeg n.toNatClampNeg)) else none
      | _, _ => none
      else none
    | .int y :: .int z :: r => if x.2.2.1 = 1002 ∧ r.length ≤ 4 then some (pc + 3, ls, .int (if y < z then y else z) :: r, h) else none
    | _ => none
  | _ => none
/-- 0: a step, 1: a return, 2: a call -/
def vkind (x : vI) : Nat := match x.1 with
  | .ireturn | .areturn | .return_ => 1
  | .invokevirtual _ | .invokestatic _ | .invokespecial _ => if 1000 ≤ x.2.2.1 then 0 else 2
  | _ => 0
def vretv (mi : Nat) (x : vI) (st : List Value) (h : vH) : Option (Option Value × vH) := match x.1, st with
  | .return_, [] => if vret mi = none then some (none, h) else none
  | .ireturn, [.int v] => match vret mi with
    | some .int => some (some (.int v), h)
    | some .boolean => if v &&& 1 = v then some (some (.int v), h) else none
    | _ => none
  | .areturn, [.ref v] => match vret mi with
    | some (.object _) => some (some (.ref v), h)
    | _ => none
  | .areturn, [.null] => match vret mi with
    | some (.object _) => some (some .null, h)
    | _ => none
  | _, _ => none
def vrecv (x : vI) (as : List Value) (h : vH) : Bool := match x.1, as with
  | .invokevirtual _, .ref a :: _ => match h[a]? with
    | some (t, _) => decide (t = vci x.2.2.1)
    | none => false
  | .invokespecial _, .ref _ :: _ => true
  | .invokestatic _, _ => true
  | _, _ => false
/-- the arguments (the receiver first) and the rest of the stack -/
def vcall (mi : Nat) (x : vI) (st : List Value) (h : vH) : Option (List Value × List Value) :=
  if x.2.2.2 ≤ st.length ∧ (st.drop x.2.2.2).length ≤ 4 ∧ vrk x.2.2.1 < vrk mi ∧ vrecv x (st.take x.2.2.2).reverse h = true ∧ (st.take x.2.2.2).all (fun v => v.category == 1) = true then some ((st.take x.2.2.2).reverse, st.drop x.2.2.2) else none
def vinit (mi : Nat) (as : List Value) : vL := as.map some ++ List.replicate (vmaxL mi - as.length) none
def vexec : Nat → Nat → Nat → vL → List Value → vH → Option (Option Value × vH)
  | 0, _, _, _, _, _ => none
  | f + 1, mi, pc, ls, st, h => match vcode mi pc with
    | none => none
    | some x => match vkind x with
      | 0 => match vstep x pc ls st h with
        | none => none
        | some y => vexec f mi y.1 y.2.1 y.2.2.1 y.2.2.2
      | 1 => vretv mi x st h
      | _ => match vcall mi x st h with
        | none => none
        | some (as, r) => match vexec f x.2.2.1 0 (vinit x.2.2.1 as) [] h with
          | none => none
          | some (v, h') => vexec f mi (pc + 3) ls (v.toList ++ r) h'
