section VSND
variable {p : Program} {l : Launch} {e : Env} {R : Room} {s : State} {m : MethodId} {args : Array Value} {below : List Frame} {meth : Method} {c : Code} {H : Heap} {locs : List Loc} {cells slots : Nat} {Q : State → Prop}
variable {D : va_G} {cA : Nat → ClassId} {sb b mi pc : Nat} {ls : vL} {st : List Value} {h : vH} {ars : Array Slot} {H0 : Heap}
/-- what a step must give -/
abbrev vGo (p : Program) (l : Launch) (e : Env) (R : Room) (s : State) (m : MethodId) (args : Array Value) (below : List Frame) (meth : Method) (c : Code) (Q : State → Prop) (D : va_G) (cA : Nat → ClassId) (sb b mi : Nat) (H0 : Heap) (cells slots : Nat) (h : vH) (y : vS) : Prop :=
  ∀ (H1 : Heap) (locs1 : List Loc) (ars1 : Array Slot) (cells1 slots1 : Nat), cells1 = cells + (y.2.2.2.length - h.length) → slots1 = slots + (vz y.2.2.2 - vz h) → vLs sb b ars1 y.2.1 (vmaxL mi) → vHR D cA sb b s y.2.2.2 H1 → va_S (vFr b) H0 H1 locs1 → W p l e R s m args below meth c H1 locs1 cells1 slots1 Q (F0 m y.1 ars1 (y.2.2.1.map (vsh sb b)))
theorem vgo_same {pc1 : Nat} {ls1 : vL} {st1 : List Value} (kk : vGo p l e R s m args below meth c Q D cA sb b mi H0 cells slots h (pc1, ls1, st1, h)) (hHR : vHR D cA sb b s h H) (hS : va_S (vFr b) H0 H locs) {ars1 : Array Slot} (hL : vLs sb b ars1 ls1 (vmaxL mi)) : W p l e R s m args below meth c H locs cells slots Q (F0 m pc1 ars1 (st1.map (vsh sb b))) :=
  kk H locs ars1 cells slots (by simp) (by simp) hL hHR hS
theorem vjump_some {off : Int} {r : List Value} {y : vS} (hs : vjump pc off ls r h = some y) : (pc : Int) + off = (vtgt pc off : Nat) ∧ y = (vtgt pc off, ls, r, h) := by
  unfold vjump at hs
  split at hs
  · rename_i h0
    refine ⟨?_, (Option.some.inj hs).symm⟩
    unfold vtgt
    omega
  · cases hs
theorem vcat_sum (sb b : Nat) {r : List Value} (hr : r.length ≤ 4) : ((r.map (vsh sb b)).map fun v => v.category).sum ≤ 8 := by
  have h2 : ∀ (r : List Value), ((r.map (vsh sb b)).map fun v => v.category).sum ≤ 2 * r.length := by
    intro r
    induction r with
    | nil => simp
    | cons a r ih =>
      simp only [List.map_cons, List.sum_cons, List.length_cons]
      have : (vsh sb b a).category ≤ 2 := by cases a <;> simp [vsh, Value.category]
      omega
  have := h2 r
  omega
theorem vset_int (xs : List Int32) (i : Nat) (v : Int32) : (xs.map Value.int).set i (.int v) = (xs.set i v).map Value.int := by rw [List.map_set]
theorem vupd_int {cI : ClassId} {xs : List Int32} {i : Nat} {v : Int32} : (arrV cI xs.length (fun j => .int (xs.getD j 0))).setSlot i (.int v) = arrV cI (xs.set i v).length (fun j => .int ((xs.set i v).getD j 0)) := by
  rw [arrV_store, List.length_set]
  apply varr_congr
  intro j hj
  unfold updV
  by_cases hji : j = i
  · subst hji
    rw [if_pos rfl, List.getD_eq_getElem?_getD, List.getElem?_set_self hj]
    rfl
  · rw [if_neg hji]
    show Value.int (xs.getD j 0) = _
    rw [List.getD_eq_getElem?_getD, List.getD_eq_getElem?_getD, List.getElem?_set_ne (fun q => hji q.symm)]
theorem vat_mk_int {k t : Nat} {xs : List Int32} (ht : t = 100 ∨ t = 101) (hh : H[vrho sb b k]? = some (arrV (cA t) xs.length (fun j => .int (xs.getD j 0)))) : vAt D cA sb b s k (t, xs.map Value.int) H := by
  unfold vAt
  rw [if_neg (by simp only; omega), if_neg (by simp only; omega), if_pos (by simp only; omega)]
  exact ⟨xs, rfl, hh⟩
theorem vat_mk_ref {k t : Nat} {fs : List Value} (ht : t = 102 ∨ t = 103) (hh : H[vrho sb b k]? = some (arrV (cA t) fs.length (fun j => vsh sb b (fs.getD j .null)))) : vAt D cA sb b s k (t, fs) H := by
  unfold vAt
  rw [if_neg (by simp only; omega), if_neg (by simp only; omega), if_neg (by simp only; omega)]
  exact hh
theorem vrho_fr {k : Nat} (hk : k ≠ 0) : vFr b (vrho sb b k) := by
  cases k with
  | zero => exact absurd rfl hk
  | succ k => exact Nat.le_add_right _ _
set_option maxHeartbeats 4000000 in
theorem vsnd_get {idx r1 r2 : Nat} {y : vS} (C : vCx D cA mi p R s m args meth c) (hcode : vcode mi pc = some (.getfield idx, 3, r1, r2)) (hs : vstep (.getfield idx, 3, r1, r2) pc ls st h = some y) (hL : vLs sb b ars ls (vmaxL mi)) (hHR : vHR D cA sb b s h H) (hS : va_S (vFr b) H0 H locs) (kk : vGo p l e R s m args below meth c Q D cA sb b mi H0 cells slots h y) : W p l e R s m args below meth c H locs cells slots Q (F0 m pc ars (st.map (vsh sb b))) := by
  obtain ⟨hx, hb, hml, hown, hts, hK, -⟩ := C
  obtain ⟨q, hq, hk, hlk⟩ := vok_get hcode
  simp only [vstep] at hs
  split at hs
  · rename_i a r
    split at hs
    · rename_i t fs hfs
      split at hs
      · rename_i ht
        split at hs
        · rename_i v hv
          cases hs
          subst ht
          have ht50 : t < 50 := vcl_lt hq
          have hat := (vat_obj (hHR.2.2.2 a _ hfs).2 ht50).1
          have hv' : (fs.map (vsh sb b))[r2]? = some (vsh sb b v) := by rw [List.getElem?_map, hv]; rfl
          rcases vlinkF_use hts hK hlk with hl | ⟨host, hl⟩
          · exact va_get (T := q.2.1) (N := q.2.2) (C := q.1) hx hb hts (vcl_in hq) hown hK.1 (va_one hat) 0 rfl hq r2 hk hl (fun _ h9 => h9) hv' (vdec hcode) (vgo_same kk hHR hS hL)
          · exact va_getN (T := q.2.1) (N := q.2.2) (C := q.1) hx hb hts (vcl_in hq) hown hK.1 (va_one hat) 0 rfl hq r2 hk hl (fun _ h9 => h9) hv' (vdec hcode) (vgo_same kk hHR hS hL)
        · cases hs
      · cases hs
    · cases hs
  · cases hs
set_option maxHeartbeats 4000000 in
theorem vsnd_put {idx r1 r2 : Nat} {y : vS} (C : vCx D cA mi p R s m args meth c) (hcode : vcode mi pc = some (.putfield idx, 3, r1, r2)) (hs : vstep (.putfield idx, 3, r1, r2) pc ls st h = some y) (hL : vLs sb b ars ls (vmaxL mi)) (hHR : vHR D cA sb b s h H) (hS : va_S (vFr b) H0 H locs) (kk : vGo p l e R s m args below meth c Q D cA sb b mi H0 cells slots h y) : W p l e R s m args below meth c H locs cells slots Q (F0 m pc ars (st.map (vsh sb b))) := by
  obtain ⟨hx, hb, hml, hown, hts, hK, -, -, hini⟩ := C
  obtain ⟨q, hq, hk, hlk, hfin⟩ := vok_put hcode
  simp only [vstep] at hs
  split at hs
  · rename_i v a r
    split at hs
    · rename_i t fs hfs
      split at hs
      · rename_i hc
        obtain ⟨ht, hlt, hf⟩ := hc
        cases hs
        subst ht
        have ht50 : t < 50 := vcl_lt hq
        obtain ⟨hat, hlen⟩ := vat_obj (hHR.2.2.2 a _ hfs).2 ht50
        have h0 : a ≠ 0 := fun h0 => by have := (hHR.2.2.2 a _ hfs).1.mp h0; simp only at this; omega
        unfold vfit at hf
        simp only [Bool.and_eq_true, decide_eq_true_eq] at hf
        have hf1 : narrow (vty t r2) (vsh sb b v) = vsh sb b v := by
          cases v with
          | ref a => cases hty : vty t r2 <;> rfl
          | _ => exact hf.1
        have hf2 : fits (vty t r2) (vsh sb b v) = true := by
          cases v with
          | ref a => have := hf.2; cases hty : vty t r2 <;> rw [hty] at this <;> first | exact this | rfl
          | _ => exact hf.2
        have hz : vz (h.set a (t, fs.set r2 v)) = vz h := vz_set h a (t, fs) _ hfs (by simp)
        have hset : (fs.map (vsh sb b)).set r2 (vsh sb b v) = (fs.set r2 v).map (vsh sb b) := by rw [List.map_set]
        have fin : ∀ (H1 : Heap) (locs1 : List Loc), va_at D vcl (vrho sb b a, .inr (t, (fs.map (vsh sb b)).set r2 (vsh sb b v))) H1 → H1.size = H.size → (∀ q : Nat, q ≠ vrho sb b a → H1[q]? = H[q]?) → va_S (vFr b) H0 H1 locs1 → W p l e R s m args below meth c H1 locs1 cells slots Q (F0 m (pc + 3) ars (r.map (vsh sb b))) := by
          intro H1 locs1 g1 g2 g3 g4
          refine kk H1 locs1 ars cells slots (by simp) (by simp [hz]) hL (hHR.set hfs (by omega) g2 g3 ?_) g4
          unfold vAt
          rw [if_pos ht50]
          refine ⟨by rw [hset] at g1; exact g1, fun q' hq' => ?_⟩
          simp only [List.length_set]
          exact hlen q' hq'
        rcases hfin with hfin | ⟨hfin, hkd, hdecl⟩
        · exact vput (T := q.2.1) (N := q.2.2) (C := q.1) hx hb hts (vcl_in hq) (vty t) (vcl_ty hq) (vcl_nm hq) hown hK.1 hat hS (vrho_fr h0) hq r2 hk (vlinkF_use hts hK hlk) hfin (vcl_ty hq r2 hk) hf1 hf2 (by simpa using hlt) (vdec hcode) fin
        · exact vputF (T := q.2.1) (N := q.2.2) (C := q.1) hx hb hts (vcl_in hq) (vty t) (vcl_ty hq) (vcl_nm hq) hown hK.1 hat hS (vrho_fr h0) hq r2 hk (vlinkF_use hts hK hlk) hfin (hini hkd) hdecl (vcl_ty hq r2 hk) hf1 hf2 (by simpa using hlt) (vdec hcode) fin
      · cases hs
    · cases hs
  · cases hs
set_option maxHeartbeats 4000000 in
theorem vsnd_iald {r1 r2 : Nat} {y : vS} (C : vCx D cA mi p R s m args meth c) (hcode : vcode mi pc = some (.iaload, 1, r1, r2)) (hs : vstep (.iaload, 1, r1, r2) pc ls st h = some y) (hL : vLs sb b ars ls (vmaxL mi)) (hHR : vHR D cA sb b s h H) (hS : va_S (vFr b) H0 H locs) (kk : vGo p l e R s m args below meth c Q D cA sb b mi H0 cells slots h y) : W p l e R s m args below meth c H locs cells slots Q (F0 m pc ars (st.map (vsh sb b))) := by
  obtain ⟨hx, hb, hml, hown, hts, hK, -⟩ := C
  simp only [vstep] at hs
  split at hs
  · rename_i i a r
    split at hs
    · rename_i t fs hfs
      split at hs
      · rename_i ht
        split at hs
        · rename_i v hv
          cases hs
          obtain ⟨ht, hi0⟩ := ht
          have hlt : i.toNatClampNeg < fs.length := (List.getElem?_eq_some_iff.mp hv).1
          rcases ht with rfl | rfl
          · obtain ⟨xs, rfl, hh⟩ := vat_int (hHR.2.2.2 a _ hfs).2 (Or.inl rfl)
            rw [List.length_map] at hlt
            have hv2 : vsh sb b v = .int (xs.getD i.toNatClampNeg 0) := by
              rw [List.getElem?_map, Option.map_eq_some_iff] at hv
              obtain ⟨z, hz, rfl⟩ := hv
              rw [List.getD_eq_getElem?_getD, hz]; rfl
            refine W.iald (v := vsh sb b v) hx hb hh ((hK.1.2 0 _ rfl).1 _ _) (fun q => by cases q) (by rw [arrV_size]; rintro (q | q); exact hi0 q; omega) (by rw [arrV_read _ _ hlt, hv2]) rfl rfl (vdec hcode) (vgo_same kk hHR hS hL)
          · obtain ⟨xs, rfl, scr, g1, g2, g3, g4, g5⟩ := vat_scr (hHR.2.2.2 a _ hfs).2
            rw [List.length_map] at hlt
            have hv2 : vsh sb b v = .int (xs.getD i.toNatClampNeg 0) := by
              rw [List.getElem?_map, Option.map_eq_some_iff] at hv
              obtain ⟨z, hz, rfl⟩ := hv
              rw [List.getD_eq_getElem?_getD, hz]; rfl
            refine W.iald (v := vsh sb b v) hx hb g1 g2 g3 (by rw [g4]; rintro (q | q); exact hi0 q; omega) (by rw [g5 _ hlt, hv2]) rfl rfl (vdec hcode) (vgo_same kk hHR hS hL)
        · cases hs
      · cases hs
    · cases hs
  · cases hs
set_option maxHeartbeats 4000000 in
theorem vsnd_zald {r1 r2 : Nat} {y : vS} (C : vCx D cA mi p R s m args meth c) (hcode : vcode mi pc = some (.baload, 1, r1, r2)) (hs : vstep (.baload, 1, r1, r2) pc ls st h = some y) (hL : vLs sb b ars ls (vmaxL mi)) (hHR : vHR D cA sb b s h H) (hS : va_S (vFr b) H0 H locs) (kk : vGo p l e R s m args below meth c Q D cA sb b mi H0 cells slots h y) : W p l e R s m args below meth c H locs cells slots Q (F0 m pc ars (st.map (vsh sb b))) := by
  obtain ⟨hx, hb, hml, hown, hts, hK, -⟩ := C
  simp only [vstep] at hs
  split at hs
  · rename_i i a r
    split at hs
    · rename_i t fs hfs
      split at hs
      · rename_i ht
        split at hs
        · rename_i v hv
          cases hs
          obtain ⟨rfl, hi0⟩ := ht
          have hlt : i.toNatClampNeg < fs.length := (List.getElem?_eq_some_iff.mp hv).1
          obtain ⟨xs, rfl, hh⟩ := vat_int (hHR.2.2.2 a _ hfs).2 (Or.inr rfl)
          rw [List.length_map] at hlt
          have hv2 : vsh sb b v = .int (xs.getD i.toNatClampNeg 0) := by
            rw [List.getElem?_map, Option.map_eq_some_iff] at hv
            obtain ⟨z, hz, rfl⟩ := hv
            rw [List.getD_eq_getElem?_getD, hz]; rfl
          refine W.zald (v := vsh sb b v) hx hb hh ((hK.1.2 1 _ rfl).1 _ _) (fun q => by cases q) (by rw [arrV_size]; rintro (q | q); exact hi0 q; omega) (by rw [arrV_read _ _ hlt, hv2]) rfl rfl (vdec hcode) (vgo_same kk hHR hS hL)
        · cases hs
      · cases hs
    · cases hs
  · cases hs
set_option maxHeartbeats 4000000 in
theorem vsnd_aald {r1 r2 : Nat} {y : vS} (C : vCx D cA mi p R s m args meth c) (hcode : vcode mi pc = some (.aaload, 1, r1, r2)) (hs : vstep (.aaload, 1, r1, r2) pc ls st h = some y) (hL : vLs sb b ars ls (vmaxL mi)) (hHR : vHR D cA sb b s h H) (hS : va_S (vFr b) H0 H locs) (kk : vGo p l e R s m args below meth c Q D cA sb b mi H0 cells slots h y) : W p l e R s m args below meth c H locs cells slots Q (F0 m pc ars (st.map (vsh sb b))) := by
  obtain ⟨hx, hb, hml, hown, hts, hK, -⟩ := C
  simp only [vstep] at hs
  split at hs
  · rename_i i a r
    split at hs
    · rename_i t fs hfs
      split at hs
      · rename_i ht
        split at hs
        · rename_i v hv
          cases hs
          obtain ⟨ht, hi0⟩ := ht
          have hlt : i.toNatClampNeg < fs.length := (List.getElem?_eq_some_iff.mp hv).1
          have hh := vat_ref (hHR.2.2.2 a _ hfs).2 ht
          have hv2 : vsh sb b (fs.getD i.toNatClampNeg .null) = vsh sb b v := by rw [List.getD_eq_getElem?_getD, hv]; rfl
          have hArr : ∃ C, ArrOfT s (cA t) (.object C) := by
            rcases ht with rfl | rfl
            · exact ⟨_, (hK.1.2 2 _ rfl).1⟩
            · exact ⟨_, (hK.1.2 3 _ rfl).1⟩
          obtain ⟨Cn, hArr⟩ := hArr
          refine W.aald (v := vsh sb b v) (ty := .object Cn) hx hb hh (hArr _ _) rfl (fun q => by cases q) (by rw [arrV_size]; rintro (q | q); exact hi0 q; omega) (by rw [arrV_read _ _ hlt, hv2]) rfl rfl (vdec hcode) (vgo_same kk hHR hS hL)
        · cases hs
      · cases hs
    · cases hs
  · cases hs
set_option maxHeartbeats 4000000 in
theorem vsnd_iast {r1 r2 : Nat} {y : vS} (C : vCx D cA mi p R s m args meth c) (hcode : vcode mi pc = some (.iastore, 1, r1, r2)) (hs : vstep (.iastore, 1, r1, r2) pc ls st h = some y) (hL : vLs sb b ars ls (vmaxL mi)) (hHR : vHR D cA sb b s h H) (hS : va_S (vFr b) H0 H locs) (kk : vGo p l e R s m args below meth c Q D cA sb b mi H0 cells slots h y) : W p l e R s m args below meth c H locs cells slots Q (F0 m pc ars (st.map (vsh sb b))) := by
  obtain ⟨hx, hb, hml, hown, hts, hK, -⟩ := C
  simp only [vstep] at hs
  split at hs
  · rename_i v i a r
    split at hs
    · rename_i t fs hfs
      split at hs
      · rename_i ht
        cases hs
        obtain ⟨rfl, hi0, hlt⟩ := ht
        obtain ⟨xs, rfl, hh⟩ := vat_int (hHR.2.2.2 a _ hfs).2 (Or.inl rfl)
        have h0 : a ≠ 0 := fun h0 => by have := (hHR.2.2.2 a _ hfs).1.mp h0; simp at this
        refine W.iast hx hb hh ((hK.1.2 0 _ rfl).1 _ _) (fun q => by cases q) (by rw [arrV_size]; rw [List.length_map] at hlt; rintro (q | q); exact hi0 q; omega) rfl rfl (vdec hcode) fun H1 e1 e2 e3 => ?_
        refine kk H1 _ ars cells slots (by simp) (by rw [vz_set h a (100, xs.map Value.int) _ hfs (by simp)]; simp) hL (hHR.set hfs (by omega) e2 e3 ?_) (hS.put e2 e3 (vrho_fr h0))
        rw [vset_int]
        exact vat_mk_int (Or.inl rfl) (by rw [e1, vupd_int])
      · cases hs
    · cases hs
  · cases hs
theorem vand1 (v : Int32) : narrow .boolean (.int v) = .int (v &&& 1) := rfl
set_option maxHeartbeats 4000000 in
theorem vsnd_zast {r1 r2 : Nat} {y : vS} (C : vCx D cA mi p R s m args meth c) (hcode : vcode mi pc = some (.bastore, 1, r1, r2)) (hs : vstep (.bastore, 1, r1, r2) pc ls st h = some y) (hL : vLs sb b ars ls (vmaxL mi)) (hHR : vHR D cA sb b s h H) (hS : va_S (vFr b) H0 H locs) (kk : vGo p l e R s m args below meth c Q D cA sb b mi H0 cells slots h y) : W p l e R s m args below meth c H locs cells slots Q (F0 m pc ars (st.map (vsh sb b))) := by
  obtain ⟨hx, hb, hml, hown, hts, hK, -⟩ := C
  simp only [vstep] at hs
  split at hs
  · rename_i v i a r
    split at hs
    · rename_i t fs hfs
      split at hs
      · rename_i ht
        cases hs
        obtain ⟨rfl, hi0, hlt⟩ := ht
        obtain ⟨xs, rfl, hh⟩ := vat_int (hHR.2.2.2 a _ hfs).2 (Or.inr rfl)
        have h0 : a ≠ 0 := fun h0 => by have := (hHR.2.2.2 a _ hfs).1.mp h0; simp at this
        refine W.zast hx hb hh ((hK.1.2 1 _ rfl).1 _ _) (fun q => by cases q) (by rw [arrV_size]; rw [List.length_map] at hlt; rintro (q | q); exact hi0 q; omega) rfl rfl (vdec hcode) fun H1 e1 e2 e3 => ?_
        refine kk H1 _ ars cells slots (by simp) (by rw [vz_set h a (101, xs.map Value.int) _ hfs (by simp)]; simp) hL (hHR.set hfs (by omega) e2 e3 ?_) (hS.put e2 e3 (vrho_fr h0))
        rw [vset_int]
        exact vat_mk_int (Or.inr rfl) (by rw [e1, vand1, vupd_int])
      · cases hs
    · cases hs
  · cases hs
set_option maxHeartbeats 4000000 in
theorem vsnd_aast {r1 r2 : Nat} {y : vS} (C : vCx D cA mi p R s m args meth c) (hcode : vcode mi pc = some (.aastore, 1, r1, r2)) (hs : vstep (.aastore, 1, r1, r2) pc ls st h = some y) (hL : vLs sb b ars ls (vmaxL mi)) (hHR : vHR D cA sb b s h H) (hS : va_S (vFr b) H0 H locs) (kk : vGo p l e R s m args below meth c Q D cA sb b mi H0 cells slots h y) : W p l e R s m args below meth c H locs cells slots Q (F0 m pc ars (st.map (vsh sb b))) := by
  obtain ⟨hx, hb, hml, hown, hts, hK, -⟩ := C
  simp only [vstep] at hs
  split at hs
  · rename_i v i a r
    split at hs
    · rename_i t fs tv fv hfs hfv
      split at hs
      · rename_i ht
        cases hs
        obtain ⟨ht, htv, hi0, hlt⟩ := ht
        have hh := vat_ref (hHR.2.2.2 a _ hfs).2 ht
        have h0 : a ≠ 0 := fun h0 => by have := (hHR.2.2.2 a _ hfs).1.mp h0; simp only at this; omega
        obtain ⟨q, hq, hqn⟩ := vcomp_ok ht
        rw [← htv] at hq
        have hov := (vat_obj (hHR.2.2.2 v _ hfv).2 (vcl_lt hq)).1
        obtain ⟨r', hr', cellV, g1, g2, g3, -⟩ := hov
        have hcls := (hK.1.1 tv q hq).2
        have hRA : va_RA s (cA t) (.object q.1) := by
          rw [hqn]
          rcases ht with rfl | rfl
          · exact (hK.1.2 2 _ rfl).2
          · exact (hK.1.2 3 _ rfl).2
        obtain ⟨kA, comp, k1, k2, k3, -⟩ := hRA
        have hcomp : comp = D.1 tv := Option.some.inj (k3.symm.trans hcls.1)
        subst hcomp
        obtain ⟨kC, hkC, hkk⟩ := hcls.2
        refine W.aast hx hb hh (fun q h => by cases h) (fun h => by cases h) k1 k2 rfl hkC ⟨hi0, by rw [arrV_size]; exact hlt⟩ g1 (fun q h => by rw [g3] at h; cases h) (by rw [g2]; exact hkC) (by rw [g2]; exact va_assign hcls) rfl rfl (vdec hcode) fun H1 e1 e2 e3 => ?_
        refine kk H1 _ ars cells slots (by simp) (by rw [vz_set h a (t, fs) _ hfs (by simp)]; simp) hL (hHR.set hfs (by omega) e2 e3 ?_) (hS.put e2 e3 (vrho_fr h0))
        refine vat_mk_ref ht ?_
        rw [e1, arrV_store, List.length_set]
        congr 1
        apply varr_congr
        intro j hj
        unfold updV
        by_cases hji : j = i.toNatClampNeg
        · subst hji
          rw [if_pos rfl, List.getD_eq_getElem?_getD, List.getElem?_set_self hj]
          rfl
        · rw [if_neg hji]
          show vsh sb b (fs.getD j .null) = _
          rw [List.getD_eq_getElem?_getD, List.getD_eq_getElem?_getD, List.getElem?_set_ne (fun q => hji q.symm)]
      · cases hs
    · cases hs
  · cases hs
set_option maxHeartbeats 4000000 in
theorem vsnd_alen {r1 r2 : Nat} {y : vS} (C : vCx D cA mi p R s m args meth c) (hcode : vcode mi pc = some (.arraylength, 1, r1, r2)) (hs : vstep (.arraylength, 1, r1, r2) pc ls st h = some y) (hL : vLs sb b ars ls (vmaxL mi)) (hHR : vHR D cA sb b s h H) (hS : va_S (vFr b) H0 H locs) (kk : vGo p l e R s m args below meth c Q D cA sb b mi H0 cells slots h y) : W p l e R s m args below meth c H locs cells slots Q (F0 m pc ars (st.map (vsh sb b))) := by
  obtain ⟨hx, hb, hml, hown, hts, hK, -⟩ := C
  simp only [vstep] at hs
  split at hs
  · rename_i a r
    split at hs
    · rename_i t fs hfs
      split at hs
      · rename_i ht
        cases hs
        have hcase : t = 100 ∨ t = 101 ∨ t = 102 ∨ t = 103 ∨ t = 104 := by omega
        rcases hcase with rfl | rfl | rfl | rfl | rfl
        · obtain ⟨xs, rfl, hh⟩ := vat_int (hHR.2.2.2 a _ hfs).2 (Or.inl rfl)
          exact W.alen hx hb hh ((hK.1.2 0 _ rfl).1 _ _) (by rw [arrV_size, List.length_map] <;> rfl) rfl rfl (vdec hcode) (vgo_same kk hHR hS hL)
        · obtain ⟨xs, rfl, hh⟩ := vat_int (hHR.2.2.2 a _ hfs).2 (Or.inr rfl)
          exact W.alen hx hb hh ((hK.1.2 1 _ rfl).1 _ _) (by rw [arrV_size, List.length_map] <;> rfl) rfl rfl (vdec hcode) (vgo_same kk hHR hS hL)
        · have hh := vat_ref (hHR.2.2.2 a _ hfs).2 (Or.inl rfl)
          exact W.alen hx hb hh ((hK.1.2 2 _ rfl).1 _ _) (by rw [arrV_size] <;> rfl) rfl rfl (vdec hcode) (vgo_same kk hHR hS hL)
        · have hh := vat_ref (hHR.2.2.2 a _ hfs).2 (Or.inr rfl)
          exact W.alen hx hb hh ((hK.1.2 3 _ rfl).1 _ _) (by rw [arrV_size] <;> rfl) rfl rfl (vdec hcode) (vgo_same kk hHR hS hL)
        · obtain ⟨xs, rfl, scr, g1, g2, g3, g4, g5⟩ := vat_scr (hHR.2.2.2 a _ hfs).2
          exact W.alen hx hb g1 g2 (by rw [g4, List.length_map] <;> rfl) rfl rfl (vdec hcode) (vgo_same kk hHR hS hL)
      · cases hs
    · cases hs
  · cases hs
end VSND
