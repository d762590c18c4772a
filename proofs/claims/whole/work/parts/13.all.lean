section VALL
variable {p : Program} {l : Launch} {e : Env} {R : Room} {s : State} {m : MethodId} {args : Array Value} {below : List Frame} {meth : Method} {c : Code} {H : Heap} {locs : List Loc} {cells slots : Nat} {Q : State → Prop}
variable {D : va_G} {cA : Nat → ClassId} {sb b mi pc : Nat} {ls : vL} {st : List Value} {h : vH} {ars : Array Slot} {H0 : Heap}
theorem vtgt_eq {pc : Nat} {off : Int} (h0 : 0 ≤ (pc : Int) + off) : (pc : Int) + off = (vtgt pc off : Nat) := by
  unfold vtgt
  omega
set_option maxHeartbeats 4000000 in
theorem vsnd_load {i : Instr} {len r1 r2 : Nat} {y : vS} (hi : (∃ k, i = .iload k) ∨ (∃ k, i = .iload_n k) ∨ (∃ k, i = .aload k) ∨ (∃ k, i = .aload_n k)) (C : vCx D cA mi p R s m args meth c) (hcode : vcode mi pc = some (i, len, r1, r2)) (hs : vstep (i, len, r1, r2) pc ls st h = some y) (hL : vLs sb b ars ls (vmaxL mi)) (hHR : vHR D cA sb b s h H) (hS : va_S (vFr b) H0 H locs) (kk : vGo p l e R s m args below meth c Q D cA sb b mi H0 cells slots h y) : W p l e R s m args below meth c H locs cells slots Q (F0 m pc ars (st.map (vsh sb b))) := by
  obtain ⟨hx, hb, -⟩ := C
  have hd := vdec hcode
  rcases hi with ⟨k, rfl⟩ | ⟨k, rfl⟩ | ⟨k, rfl⟩ | ⟨k, rfl⟩
  · obtain rfl := vlen_of (n := 2) hcode rfl (by decide)
    simp only [vstep] at hs
    split at hs
    · rename_i v hv
      cases hs
      exact lv_iload hx hb hd (hL.get hv) (vgo_same kk hHR hS hL)
    · cases hs
  · obtain rfl := vlen_of (n := 1) hcode rfl (by decide)
    simp only [vstep] at hs
    split at hs
    · rename_i v hv
      cases hs
      exact lv_iload_n hx hb hd rfl (hL.get hv) (vgo_same kk hHR hS hL)
    · cases hs
  · obtain rfl := vlen_of (n := 2) hcode rfl (by decide)
    simp only [vstep] at hs
    split at hs
    · rename_i v hv
      cases hs
      exact lv_aload hx hb hd (hL.get hv) (vgo_same kk hHR hS hL)
    · rename_i hv
      cases hs
      exact lv_aloadN hx hb hd (hL.get hv) (vgo_same kk hHR hS hL)
    · cases hs
  · obtain rfl := vlen_of (n := 1) hcode rfl (by decide)
    simp only [vstep] at hs
    split at hs
    · rename_i v hv
      cases hs
      exact lv_aload_n hx hb hd rfl (hL.get hv) (vgo_same kk hHR hS hL)
    · rename_i hv
      cases hs
      exact lv_aload_nN hx hb hd rfl (hL.get hv) (vgo_same kk hHR hS hL)
    · cases hs
set_option maxHeartbeats 4000000 in
theorem vsnd_store {i : Instr} {len r1 r2 : Nat} {y : vS} (hi : (∃ k, i = .istore k) ∨ (∃ k, i = .istore_n k) ∨ (∃ k, i = .astore k) ∨ (∃ k, i = .astore_n k) ∨ (∃ k n, i = .iinc k n)) (C : vCx D cA mi p R s m args meth c) (hcode : vcode mi pc = some (i, len, r1, r2)) (hs : vstep (i, len, r1, r2) pc ls st h = some y) (hL : vLs sb b ars ls (vmaxL mi)) (hHR : vHR D cA sb b s h H) (hS : va_S (vFr b) H0 H locs) (kk : vGo p l e R s m args below meth c Q D cA sb b mi H0 cells slots h y) : W p l e R s m args below meth c H locs cells slots Q (F0 m pc ars (st.map (vsh sb b))) := by
  obtain ⟨hx, hb, -⟩ := C
  have hd := vdec hcode
  rcases hi with ⟨k, rfl⟩ | ⟨k, rfl⟩ | ⟨k, rfl⟩ | ⟨k, rfl⟩ | ⟨k, n, rfl⟩
  · obtain rfl := vlen_of (n := 2) hcode rfl (by decide)
    simp only [vstep] at hs
    split at hs
    · rename_i v r
      split at hs
      · rename_i hk
        cases hs
        exact lv_istore hx hb hd hL.has (by rw [← hL.2.1]; exact hk) rfl fun ars1 h1 => vgo_same kk hHR hS (hL.back rfl hk h1)
      · cases hs
    · cases hs
  · obtain rfl := vlen_of (n := 1) hcode rfl (by decide)
    simp only [vstep] at hs
    split at hs
    · rename_i v r
      split at hs
      · rename_i hk
        cases hs
        exact lv_istore_n hx hb hd rfl hL.has (by rw [← hL.2.1]; exact hk) rfl fun ars1 h1 => vgo_same kk hHR hS (hL.back rfl hk h1)
      · cases hs
    · cases hs
  · obtain rfl := vlen_of (n := 2) hcode rfl (by decide)
    simp only [vstep] at hs
    split at hs
    · rename_i v r
      split at hs
      · rename_i hk
        cases hs
        exact lv_astore hx hb hd hL.has (by rw [← hL.2.1]; exact hk) rfl fun ars1 h1 => vgo_same kk hHR hS (hL.back (v := .ref v) rfl hk h1)
      · cases hs
    · rename_i r
      split at hs
      · rename_i hk
        cases hs
        exact lv_astoreN hx hb hd hL.has (by rw [← hL.2.1]; exact hk) rfl fun ars1 h1 => vgo_same kk hHR hS (hL.back (v := .null) rfl hk h1)
      · cases hs
    · cases hs
  · obtain rfl := vlen_of (n := 1) hcode rfl (by decide)
    simp only [vstep] at hs
    split at hs
    · rename_i v r
      split at hs
      · rename_i hk
        cases hs
        exact lv_astore_n hx hb hd rfl hL.has (by rw [← hL.2.1]; exact hk) rfl fun ars1 h1 => vgo_same kk hHR hS (hL.back (v := .ref v) rfl hk h1)
      · cases hs
    · rename_i r
      split at hs
      · rename_i hk
        cases hs
        exact lv_astore_nN hx hb hd rfl hL.has (by rw [← hL.2.1]; exact hk) rfl fun ars1 h1 => vgo_same kk hHR hS (hL.back (v := .null) rfl hk h1)
      · cases hs
    · cases hs
  · obtain rfl := vlen_of (n := 3) hcode rfl (by decide)
    simp only [vstep] at hs
    split at hs
    · rename_i v hv
      cases hs
      obtain ⟨q, hq⟩ := vas_at (sb := sb) (b := b) hv
      have hk : k < ls.length := (List.getElem?_eq_some_iff.mp (vld_some.mp hv)).1
      exact lv_iinc hx hb hd hL.has hq rfl (by rw [← hL.2.1]; exact hk) rfl fun ars1 h1 => vgo_same kk hHR hS (hL.back (v := .int (v + Int32.ofInt n)) rfl hk h1)
    · cases hs
set_option maxHeartbeats 4000000 in
theorem vsnd_if {i : Instr} {len r1 r2 : Nat} {y : vS} (hi : (∃ k off, i = .ifCond k off) ∨ (∃ k off, i = .if_icmp k off)) (C : vCx D cA mi p R s m args meth c) (hcode : vcode mi pc = some (i, len, r1, r2)) (hs : vstep (i, len, r1, r2) pc ls st h = some y) (hL : vLs sb b ars ls (vmaxL mi)) (hHR : vHR D cA sb b s h H) (hS : va_S (vFr b) H0 H locs) (kk : vGo p l e R s m args below meth c Q D cA sb b mi H0 cells slots h y) : W p l e R s m args below meth c H locs cells slots Q (F0 m pc ars (st.map (vsh sb b))) := by
  obtain ⟨hx, hb, -⟩ := C
  have hd := vdec hcode
  rcases hi with ⟨k, off, rfl⟩ | ⟨k, off, rfl⟩
  · obtain rfl := vlen_of (n := 3) hcode rfl (by decide)
    simp only [vstep] at hs
    split at hs
    · rename_i v r
      split at hs
      · rename_i hc
        obtain ⟨hj, rfl⟩ := vjump_some hs
        cases k <;> simp only [vcmp, decide_eq_true_eq] at hc
        · exact lv_if_eq hx hb hd hj (fun _ => vgo_same kk hHR hS hL) (fun q => absurd hc q)
        · exact lv_if_ne hx hb hd hj (fun _ => vgo_same kk hHR hS hL) (fun q => absurd q hc)
        · exact lv_if_lt hx hb hd hj (fun _ => vgo_same kk hHR hS hL) (fun q => absurd hc q)
        · exact lv_if_ge hx hb hd hj (fun _ => vgo_same kk hHR hS hL) (fun q => absurd hc q)
        · exact lv_if_gt hx hb hd hj (fun _ => vgo_same kk hHR hS hL) (fun q => absurd hc q)
        · exact lv_if_le hx hb hd hj (fun _ => vgo_same kk hHR hS hL) (fun q => absurd hc q)
      · rename_i hc
        cases hs
        have hj : (pc : Int) + off = (vtgt pc off : Nat) := vtgt_eq (vok_if hcode)
        cases k <;> simp only [vcmp, decide_eq_true_eq] at hc
        · exact lv_if_eq hx hb hd hj (fun q => absurd q hc) (fun _ => vgo_same kk hHR hS hL)
        · exact lv_if_ne hx hb hd hj (fun q => absurd q hc) (fun _ => vgo_same kk hHR hS hL)
        · exact lv_if_lt hx hb hd hj (fun q => absurd q hc) (fun _ => vgo_same kk hHR hS hL)
        · exact lv_if_ge hx hb hd hj (fun q => absurd q hc) (fun _ => vgo_same kk hHR hS hL)
        · exact lv_if_gt hx hb hd hj (fun q => absurd q hc) (fun _ => vgo_same kk hHR hS hL)
        · exact lv_if_le hx hb hd hj (fun q => absurd q hc) (fun _ => vgo_same kk hHR hS hL)
    · cases hs
  · obtain rfl := vlen_of (n := 3) hcode rfl (by decide)
    simp only [vstep] at hs
    split at hs
    · rename_i w v r
      split at hs
      · rename_i hc
        obtain ⟨hj, rfl⟩ := vjump_some hs
        cases k <;> simp only [vcmp, decide_eq_true_eq] at hc
        · exact lv_icmp_eq hx hb hd hj (fun _ => vgo_same kk hHR hS hL) (fun q => absurd hc q)
        · exact lv_icmp_ne hx hb hd hj (fun _ => vgo_same kk hHR hS hL) (fun q => absurd q hc)
        · exact lv_icmp_lt hx hb hd hj (fun _ => vgo_same kk hHR hS hL) (fun q => absurd hc q)
        · exact lv_icmp_ge hx hb hd hj (fun _ => vgo_same kk hHR hS hL) (fun q => absurd hc q)
        · exact lv_icmp_gt hx hb hd hj (fun _ => vgo_same kk hHR hS hL) (fun q => absurd hc q)
        · exact lv_icmp_le hx hb hd hj (fun _ => vgo_same kk hHR hS hL) (fun q => absurd hc q)
      · rename_i hc
        cases hs
        have hj : (pc : Int) + off = (vtgt pc off : Nat) := vtgt_eq (vok_icmp hcode)
        cases k <;> simp only [vcmp, decide_eq_true_eq] at hc
        · exact lv_icmp_eq hx hb hd hj (fun q => absurd q hc) (fun _ => vgo_same kk hHR hS hL)
        · exact lv_icmp_ne hx hb hd hj (fun q => absurd q hc) (fun _ => vgo_same kk hHR hS hL)
        · exact lv_icmp_lt hx hb hd hj (fun q => absurd q hc) (fun _ => vgo_same kk hHR hS hL)
        · exact lv_icmp_ge hx hb hd hj (fun q => absurd q hc) (fun _ => vgo_same kk hHR hS hL)
        · exact lv_icmp_gt hx hb hd hj (fun q => absurd q hc) (fun _ => vgo_same kk hHR hS hL)
        · exact lv_icmp_le hx hb hd hj (fun q => absurd q hc) (fun _ => vgo_same kk hHR hS hL)
    · cases hs
set_option maxHeartbeats 8000000 in
theorem vstep_snd {x : vI} {y : vS} (C : vCx D cA mi p R s m args meth c) (hcode : vcode mi pc = some x) (hk : vkind x = 0) (hs : vstep x pc ls st h = some y) (hL : vLs sb b ars ls (vmaxL mi)) (hHR : vHR D cA sb b s h H) (hS : va_S (vFr b) H0 H locs) (hc1 : cells + (y.2.2.2.length - h.length) ≤ R.cells) (hc2 : slots + (vz y.2.2.2 - vz h) ≤ R.slots) (kk : vGo p l e R s m args below meth c Q D cA sb b mi H0 cells slots h y) : W p l e R s m args below meth c H locs cells slots Q (F0 m pc ars (st.map (vsh sb b))) := by
  obtain ⟨i, len, r1, r2⟩ := x
  have hd := vdec hcode
  have C0 := C
  obtain ⟨hx, hb, hml, hown, hts, hK, hfr, hlo, hini⟩ := C
  cases i with
  | iload k => exact vsnd_load (Or.inl ⟨k, rfl⟩) C0 hcode hs hL hHR hS kk
  | iload_n k => exact vsnd_load (Or.inr (Or.inl ⟨k, rfl⟩)) C0 hcode hs hL hHR hS kk
  | aload k => exact vsnd_load (Or.inr (Or.inr (Or.inl ⟨k, rfl⟩))) C0 hcode hs hL hHR hS kk
  | aload_n k => exact vsnd_load (Or.inr (Or.inr (Or.inr ⟨k, rfl⟩))) C0 hcode hs hL hHR hS kk
  | istore k => exact vsnd_store (Or.inl ⟨k, rfl⟩) C0 hcode hs hL hHR hS kk
  | istore_n k => exact vsnd_store (Or.inr (Or.inl ⟨k, rfl⟩)) C0 hcode hs hL hHR hS kk
  | astore k => exact vsnd_store (Or.inr (Or.inr (Or.inl ⟨k, rfl⟩))) C0 hcode hs hL hHR hS kk
  | astore_n k => exact vsnd_store (Or.inr (Or.inr (Or.inr (Or.inl ⟨k, rfl⟩)))) C0 hcode hs hL hHR hS kk
  | iinc k n => exact vsnd_store (Or.inr (Or.inr (Or.inr (Or.inr ⟨k, n, rfl⟩)))) C0 hcode hs hL hHR hS kk
  | ifCond k off => exact vsnd_if (Or.inl ⟨k, off, rfl⟩) C0 hcode hs hL hHR hS kk
  | if_icmp k off => exact vsnd_if (Or.inr ⟨k, off, rfl⟩) C0 hcode hs hL hHR hS kk
  | getfield idx => obtain rfl := vlen_of (n := 3) hcode rfl (by decide); exact vsnd_get C0 hcode hs hL hHR hS kk
  | putfield idx => obtain rfl := vlen_of (n := 3) hcode rfl (by decide); exact vsnd_put C0 hcode hs hL hHR hS kk
  | iaload => obtain rfl := vlen_of (n := 1) hcode rfl (by decide); exact vsnd_iald C0 hcode hs hL hHR hS kk
  | baload => obtain rfl := vlen_of (n := 1) hcode rfl (by decide); exact vsnd_zald C0 hcode hs hL hHR hS kk
  | aaload => obtain rfl := vlen_of (n := 1) hcode rfl (by decide); exact vsnd_aald C0 hcode hs hL hHR hS kk
  | iastore => obtain rfl := vlen_of (n := 1) hcode rfl (by decide); exact vsnd_iast C0 hcode hs hL hHR hS kk
  | bastore => obtain rfl := vlen_of (n := 1) hcode rfl (by decide); exact vsnd_zast C0 hcode hs hL hHR hS kk
  | aastore => obtain rfl := vlen_of (n := 1) hcode rfl (by decide); exact vsnd_aast C0 hcode hs hL hHR hS kk
  | arraylength => obtain rfl := vlen_of (n := 1) hcode rfl (by decide); exact vsnd_alen C0 hcode hs hL hHR hS kk
  | new idx => obtain rfl := vlen_of (n := 3) hcode rfl (by decide); exact vsnd_new C0 hcode hs hL hHR hS hc1 hc2 kk
  | newarray t => obtain rfl := vlen_of (n := 2) hcode rfl (by decide); exact vsnd_newa C0 hcode hs hL hHR hS hc1 hc2 kk
  | anewarray idx => obtain rfl := vlen_of (n := 3) hcode rfl (by decide); exact vsnd_anew C0 hcode hs hL hHR hS hc1 hc2 kk
  | invokespecial idx => obtain rfl := vlen_of (n := 3) hcode rfl (by decide); exact vsnd_oinit C0 hcode hs hL hHR hS kk
  | invokestatic idx => obtain rfl := vlen_of (n := 3) hcode rfl (by decide); exact vsnd_stat C0 hcode hs hL hHR hS (by omega) (by omega) kk
  | iconst n => obtain rfl := vlen_of (n := 1) hcode rfl (by decide); simp only [vstep] at hs; cases hs; exact lv_iconst hx hb hd rfl (vgo_same kk hHR hS hL)
  | bipush n => obtain rfl := vlen_of (n := 2) hcode rfl (by decide); simp only [vstep] at hs; cases hs; exact lv_bipush hx hb hd rfl (vgo_same kk hHR hS hL)
  | sipush n => obtain rfl := vlen_of (n := 3) hcode rfl (by decide); simp only [vstep] at hs; cases hs; exact lv_sipush hx hb hd rfl (vgo_same kk hHR hS hL)
  | ldc idx => obtain rfl := vlen_of (n := 2) hcode rfl (by decide); simp only [vstep] at hs; cases hs; exact lv_ldc hx hb hown (hts _ (vok_ldc hcode)) hd (vgo_same kk hHR hS hL)
  | ldc_w idx => obtain rfl := vlen_of (n := 3) hcode rfl (by decide); simp only [vstep] at hs; cases hs; exact lv_ldcw hx hb hown (hts _ (vok_ldcw hcode)) hd (vgo_same kk hHR hS hL)
  | aconst_null => obtain rfl := vlen_of (n := 1) hcode rfl (by decide); simp only [vstep] at hs; cases hs; exact lv_null hx hb hd (vgo_same kk hHR hS hL)
  | iadd =>
    obtain rfl := vlen_of (n := 1) hcode rfl (by decide); simp only [vstep] at hs
    split at hs
    · cases hs; exact lv_iadd hx hb hd (vgo_same kk hHR hS hL)
    · cases hs
  | isub =>
    obtain rfl := vlen_of (n := 1) hcode rfl (by decide); simp only [vstep] at hs
    split at hs
    · cases hs; exact lv_isub hx hb hd (vgo_same kk hHR hS hL)
    · cases hs
  | imul =>
    obtain rfl := vlen_of (n := 1) hcode rfl (by decide); simp only [vstep] at hs
    split at hs
    · cases hs; exact lv_imul hx hb hd (vgo_same kk hHR hS hL)
    · cases hs
  | iand =>
    obtain rfl := vlen_of (n := 1) hcode rfl (by decide); simp only [vstep] at hs
    split at hs
    · cases hs; exact lv_iand hx hb hd (vgo_same kk hHR hS hL)
    · cases hs
  | ishr =>
    obtain rfl := vlen_of (n := 1) hcode rfl (by decide); simp only [vstep] at hs
    split at hs
    · cases hs; exact lv_ishr hx hb hd (vgo_same kk hHR hS hL)
    · cases hs
  | idiv =>
    obtain rfl := vlen_of (n := 1) hcode rfl (by decide); simp only [vstep] at hs
    split at hs
    · split at hs
      · cases hs
      · rename_i hne
        cases hs; exact lv_idiv hx hb hd hne (vgo_same kk hHR hS hL)
    · cases hs
  | irem =>
    obtain rfl := vlen_of (n := 1) hcode rfl (by decide); simp only [vstep] at hs
    split at hs
    · split at hs
      · cases hs
      · rename_i hne
        cases hs; exact lv_irem hx hb hd hne (vgo_same kk hHR hS hL)
    · cases hs
  | dup =>
    obtain rfl := vlen_of (n := 1) hcode rfl (by decide); simp only [vstep] at hs
    split at hs
    · cases hs; exact lv_dup hx hb hd rfl (vgo_same kk hHR hS hL)
    · cases hs; exact lv_dup hx hb hd rfl (vgo_same kk hHR hS hL)
    · cases hs
  | pop =>
    obtain rfl := vlen_of (n := 1) hcode rfl (by decide); simp only [vstep] at hs
    split at hs
    · cases hs; exact lv_pop hx hb hd rfl (vgo_same kk hHR hS hL)
    · cases hs; exact lv_pop hx hb hd rfl (vgo_same kk hHR hS hL)
    · cases hs
  | ifnull off =>
    obtain rfl := vlen_of (n := 3) hcode rfl (by decide); simp only [vstep] at hs
    split at hs
    · cases hs; exact lv_ifnull hx hb hd (vgo_same kk hHR hS hL)
    · obtain ⟨hj, rfl⟩ := vjump_some hs; exact lv_ifnullN hx hb hd hj (vgo_same kk hHR hS hL)
    · cases hs
  | ifnonnull off =>
    obtain rfl := vlen_of (n := 3) hcode rfl (by decide); simp only [vstep] at hs
    split at hs
    · obtain ⟨hj, rfl⟩ := vjump_some hs; exact lv_ifnonnull hx hb hd hj (vgo_same kk hHR hS hL)
    · cases hs; exact lv_ifnonnullN hx hb hd (vgo_same kk hHR hS hL)
    · cases hs
  | goto off =>
    obtain rfl := vlen_of (n := 3) hcode rfl (by decide); simp only [vstep] at hs
    obtain ⟨hj, rfl⟩ := vjump_some hs; exact lv_goto hx hb hd hj (vgo_same kk hHR hS hL)
  | tableswitch d lo hi offs =>
    simp only [vstep] at hs
    split at hs
    · split at hs
      · rename_i hout
        obtain ⟨hj, rfl⟩ := vjump_some hs; exact lv_tableOut hx hb hd hout hj (vgo_same kk hHR hS hL)
      · rename_i hout
        split at hs
        · rename_i off hoff
          obtain ⟨hj, rfl⟩ := vjump_some hs; exact lv_tableIn hx hb hd (fun q => hout (Or.inl q)) (fun q => hout (Or.inr q)) hoff hj (vgo_same kk hHR hS hL)
        · cases hs
    · cases hs
  | lookupswitch d ps =>
    simp only [vstep] at hs
    split at hs
    · split at hs
      · rename_i hp
        obtain ⟨hj, rfl⟩ := vjump_some hs; exact lv_lookup hx hb hd hp rfl hj (vgo_same kk hHR hS hL)
      · cases hs
    · cases hs
  | _ => first | (simp [vstep] at hs; done) | (simp [vkind] at hk; done)
end VALL
