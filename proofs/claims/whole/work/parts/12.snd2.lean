section VSND2
variable {p : Program} {l : Launch} {e : Env} {R : Room} {s : State} {m : MethodId} {args : Array Value} {below : List Frame} {meth : Method} {c : Code} {H : Heap} {locs : List Loc} {cells slots : Nat} {Q : State → Prop}
variable {D : va_G} {cA : Nat → ClassId} {sb b mi pc : Nat} {ls : vL} {st : List Value} {h : vH} {ars : Array Slot} {H0 : Heap}
theorem vS_push {H1 : Heap} (hS : va_S (vFr b) H0 H locs) (hz : H1.size = H.size + 1) (hq : ∀ q : Nat, q < H.size → H1[q]? = H[q]?) : va_S (vFr b) H0 H1 locs :=
  ⟨Nat.le_trans hS.1 (by omega), fun x h1 h2 => (hq x (Nat.lt_of_lt_of_le h1 hS.1)).trans (hS.2.1 x h1 h2), hS.2.2⟩
set_option maxHeartbeats 4000000 in
theorem vsnd_new {idx r1 r2 : Nat} {y : vS} (C : vCx D cA mi p R s m args meth c) (hcode : vcode mi pc = some (.new idx, 3, r1, r2)) (hs : vstep (.new idx, 3, r1, r2) pc ls st h = some y) (hL : vLs sb b ars ls (vmaxL mi)) (hHR : vHR D cA sb b s h H) (hS : va_S (vFr b) H0 H locs) (hc1 : cells + (y.2.2.2.length - h.length) ≤ R.cells) (hc2 : slots + (vz y.2.2.2 - vz h) ≤ R.slots) (kk : vGo p l e R s m args below meth c Q D cA sb b mi H0 cells slots h y) : W p l e R s m args below meth c H locs cells slots Q (F0 m pc ars (st.map (vsh sb b))) := by
  obtain ⟨hx, hb, hml, hown, hts, hK, -⟩ := C
  obtain ⟨q, hq, w1, w2, w3⟩ := vok_new hcode
  simp only [vstep] at hs
  cases hs
  have ht50 : r1 < 50 := vcl_lt hq
  have hlen : (vdef r1).length = q.2.2 := vdef_len hq
  have hKn := hK.1.1 r1 q hq
  have htop : vrho sb b h.length = H.size := vrho_top hHR.1 hHR.2.2.1
  simp only [vz_push, List.length_append, List.length_singleton] at hc1 hc2
  refine W.newcK hx hb hown (hts _ w1) (hts _ w2) (hts _ w3) rfl (vdec hcode) (by omega) (by omega) hKn.2.1 rfl fun H1 kC hkC e1 z1 o1 => ?_
  have hsh : (vdef r1).map (vsh sb b) = vdef r1 := by
    have h10 : r1 < 10 := (List.getElem?_eq_some_iff.mp hq).1
    have := vdef_sh r1 h10
    apply List.ext_getElem?
    intro j
    rw [List.getElem?_map]
    cases hj : (vdef r1)[j]? with
    | none => rfl
    | some v =>
      rcases this v (List.mem_of_getElem? hj) with rfl | rfl <;> rfl
  have hA : vAt D cA sb b s h.length (r1, vdef r1) H1 := by
    unfold vAt
    rw [if_pos ht50]
    refine ⟨⟨q, hq, ?_⟩, fun q' hq' => by rw [hq] at hq'; cases hq'; exact hlen⟩
    simp only [htop, hsh]
    exact (u_born (vty r1) hts (vcl_in hq) hKn hkC e1 (vcl_ty hq)).to (fun j hj => by rw [vdef_ok hq j hj])
  have z : W p l e R s m args below meth c H1 locs (cells + 1) (slots + q.2.2) Q (F0 m (pc + 3) ars (vsh sb b (.ref h.length) :: st.map (vsh sb b))) := kk H1 locs ars (cells + 1) (slots + q.2.2) (by simp) (by simp only [vz_push]; omega) hL (hHR.push (by simp only; omega) z1 o1 hA) (vS_push hS z1 o1)
  rw [show vsh sb b (.ref h.length) = .ref H.size by show Value.ref (vrho sb b h.length) = _; rw [htop]] at z
  exact z
theorem vrep_sh (sb b n : Nat) : (fun j => vsh sb b ((List.replicate n Value.null).getD j .null)) = fun _ => Value.null := by
  funext j
  rw [List.getD_eq_getElem?_getD, List.getElem?_replicate]
  split <;> rfl
theorem vrep_int (n : Nat) : (fun j => Value.int ((List.replicate n (0 : Int32)).getD j 0)) = fun _ => Value.int 0 := by
  funext j
  rw [List.getD_eq_getElem?_getD, List.getElem?_replicate]
  split <;> rfl
set_option maxHeartbeats 4000000 in
theorem vsnd_newa {at_ : ArrayType} {r1 r2 : Nat} {y : vS} (C : vCx D cA mi p R s m args meth c) (hcode : vcode mi pc = some (.newarray at_, 2, r1, r2)) (hs : vstep (.newarray at_, 2, r1, r2) pc ls st h = some y) (hL : vLs sb b ars ls (vmaxL mi)) (hHR : vHR D cA sb b s h H) (hS : va_S (vFr b) H0 H locs) (hc1 : cells + (y.2.2.2.length - h.length) ≤ R.cells) (hc2 : slots + (vz y.2.2.2 - vz h) ≤ R.slots) (kk : vGo p l e R s m args below meth c Q D cA sb b mi H0 cells slots h y) : W p l e R s m args below meth c H locs cells slots Q (F0 m pc ars (st.map (vsh sb b))) := by
  obtain ⟨hx, hb, hml, hown, hts, hK, -⟩ := C
  have htop : vrho sb b h.length = H.size := vrho_top hHR.1 hHR.2.2.1
  simp only [vstep] at hs
  split at hs
  · rename_i n r
    split at hs
    · rename_i hn
      obtain ⟨hn0, hn1⟩ := hn
      split at hs
      · cases hs
        simp only [vz_push, List.length_append, List.length_singleton, List.length_replicate] at hc1 hc2
        refine va_newaK (atype := .int) hx hb (hts _ vaw.1) rfl (vdec hcode) rfl hn0 rfl (by show n.toNatClampNeg * 4 ≤ _; omega) (by omega) (by omega) rfl fun H1 cA1 e1 z1 o1 hAr hNm => ?_
        have hcA : cA1 = cA 100 := Option.some.inj (hNm.symm.trans (hK.1.2 0 _ rfl).2)
        subst hcA
        have hA : vAt D cA sb b s h.length (100, List.replicate n.toNatClampNeg (Value.int 0)) H1 := by
          have hr : List.replicate n.toNatClampNeg (Value.int 0) = (List.replicate n.toNatClampNeg (0 : Int32)).map Value.int := by rw [List.map_replicate]
          rw [hr]
          refine vat_mk_int (Or.inl rfl) ?_
          rw [htop, vrep_int, List.length_replicate]
          exact e1
        have z : W p l e R s m args below meth c H1 locs (cells + 1) (slots + n.toNatClampNeg) Q (F0 m (pc + 2) ars (vsh sb b (.ref h.length) :: r.map (vsh sb b))) := kk H1 locs ars (cells + 1) (slots + n.toNatClampNeg) (by simp) (by simp only [vz_push, List.length_replicate]; omega) hL (hHR.push (by simp) z1 o1 hA) (vS_push hS z1 o1)
        rw [show vsh sb b (.ref h.length) = .ref H.size by show Value.ref (vrho sb b h.length) = _; rw [htop]] at z
        exact z
      · cases hs
        simp only [vz_push, List.length_append, List.length_singleton, List.length_replicate] at hc1 hc2
        refine va_newaK (atype := .boolean) hx hb (hts _ vaw.2.1) rfl (vdec hcode) rfl hn0 rfl (by show n.toNatClampNeg * 1 ≤ _; omega) (by omega) (by omega) rfl fun H1 cA1 e1 z1 o1 hAr hNm => ?_
        have hcA : cA1 = cA 101 := Option.some.inj (hNm.symm.trans (hK.1.2 1 _ rfl).2)
        subst hcA
        have hA : vAt D cA sb b s h.length (101, List.replicate n.toNatClampNeg (Value.int 0)) H1 := by
          have hr : List.replicate n.toNatClampNeg (Value.int 0) = (List.replicate n.toNatClampNeg (0 : Int32)).map Value.int := by rw [List.map_replicate]
          rw [hr]
          refine vat_mk_int (Or.inr rfl) ?_
          rw [htop, vrep_int, List.length_replicate]
          exact e1
        have z : W p l e R s m args below meth c H1 locs (cells + 1) (slots + n.toNatClampNeg) Q (F0 m (pc + 2) ars (vsh sb b (.ref h.length) :: r.map (vsh sb b))) := kk H1 locs ars (cells + 1) (slots + n.toNatClampNeg) (by simp) (by simp only [vz_push, List.length_replicate]; omega) hL (hHR.push (by simp) z1 o1 hA) (vS_push hS z1 o1)
        rw [show vsh sb b (.ref h.length) = .ref H.size by show Value.ref (vrho sb b h.length) = _; rw [htop]] at z
        exact z
      · cases hs
    · cases hs
  · cases hs
set_option maxHeartbeats 4000000 in
theorem vsnd_anew {idx r1 r2 : Nat} {y : vS} (C : vCx D cA mi p R s m args meth c) (hcode : vcode mi pc = some (.anewarray idx, 3, r1, r2)) (hs : vstep (.anewarray idx, 3, r1, r2) pc ls st h = some y) (hL : vLs sb b ars ls (vmaxL mi)) (hHR : vHR D cA sb b s h H) (hS : va_S (vFr b) H0 H locs) (hc1 : cells + (y.2.2.2.length - h.length) ≤ R.cells) (hc2 : slots + (vz y.2.2.2 - vz h) ≤ R.slots) (kk : vGo p l e R s m args below meth c Q D cA sb b mi H0 cells slots h y) : W p l e R s m args below meth c H locs cells slots Q (F0 m pc ars (st.map (vsh sb b))) := by
  obtain ⟨hx, hb, hml, hown, hts, hK, -⟩ := C
  have w1 := vok_anew hcode
  have htop : vrho sb b h.length = H.size := vrho_top hHR.1 hHR.2.2.1
  simp only [vstep] at hs
  split at hs
  · rename_i n r
    split at hs
    · rename_i hn
      obtain ⟨hr1, hn0, hn1⟩ := hn
      cases hs
      simp only [vz_push, List.length_append, List.length_singleton, List.length_replicate] at hc1 hc2
      have hAO : va_AO (vcn r1) s := by
        rcases hr1 with rfl | rfl
        · exact hK.2.2.1
        · exact hK.2.2.2
      have hRA : va_RA s (cA r1) (.object (vcn r1)) := by
        rcases hr1 with rfl | rfl
        · exact (hK.1.2 2 _ rfl).2
        · exact (hK.1.2 3 _ rfl).2
      obtain ⟨-, -, -, -, -, hRA4⟩ := hRA
      refine W.anew hx hb hown (hts _ w1) (va_AO.use hAO) rfl (vdec hcode) rfl hn0 (by omega) (by omega) (by omega) fun cA1 kA comp f1 f2 f3 f4 => ?_
      have hcA : cA1 = cA r1 := Option.some.inj (f1.symm.trans hRA4)
      subst hcA
      generalize hH1 : H.push ({ cls := cA r1, slots := Array.replicate n.toNatClampNeg .null, vm := .none } : Cell) = H1
      have z1 : H1.size = H.size + 1 := by rw [← hH1, Array.size_push]
      have e1 : H1[H.size]? = some (arrV (cA r1) n.toNatClampNeg (fun _ => .null)) := by rw [← hH1, Array.getElem?_push_size, ← arrV_new]
      have o1 : ∀ q : Nat, q < H.size → H1[q]? = H[q]? := fun q hq => by rw [← hH1, Array.getElem?_push, if_neg (Nat.ne_of_lt hq)]
      have hA : vAt D cA sb b s h.length (r1, List.replicate n.toNatClampNeg Value.null) H1 := by
        refine vat_mk_ref hr1 ?_
        rw [htop, vrep_sh, List.length_replicate]
        exact e1
      have z : W p l e R s m args below meth c H1 locs (cells + 1) (slots + n.toNatClampNeg) Q (F0 m (pc + 3) ars (vsh sb b (.ref h.length) :: r.map (vsh sb b))) := kk H1 locs ars (cells + 1) (slots + n.toNatClampNeg) (by simp) (by simp only [vz_push, List.length_replicate]; omega) hL (hHR.push (by simp only; omega) z1 o1 hA) (vS_push hS z1 o1)
      rw [show vsh sb b (.ref h.length) = .ref H.size by show Value.ref (vrho sb b h.length) = _; rw [htop]] at z
      exact z
    · cases hs
  · cases hs
set_option maxHeartbeats 4000000 in
theorem vsnd_oinit {idx r1 r2 : Nat} {y : vS} (C : vCx D cA mi p R s m args meth c) (hcode : vcode mi pc = some (.invokespecial idx, 3, r1, r2)) (hs : vstep (.invokespecial idx, 3, r1, r2) pc ls st h = some y) (hL : vLs sb b ars ls (vmaxL mi)) (hHR : vHR D cA sb b s h H) (hS : va_S (vFr b) H0 H locs) (kk : vGo p l e R s m args below meth c Q D cA sb b mi H0 cells slots h y) : W p l e R s m args below meth c H locs cells slots Q (F0 m pc ars (st.map (vsh sb b))) := by
  obtain ⟨hx, hb, hml, hown, hts, hK, hfr, hlo, -⟩ := C
  simp only [vstep] at hs
  split at hs
  · rename_i a r
    split at hs
    · rename_i hr
      obtain ⟨hr1, hr2⟩ := hr
      cases hs
      subst hr1
      obtain ⟨w1, hlo1⟩ := vok_oinit hcode
      have hrk := vrk_pos hcode
      have hsum := vcat_sum sb b hr2
      exact W.objInit hx hb hown (hts _ w1) (hts _ voi.1) (hts _ voi.2) rfl (by rw [hml]; exact hL.1) rfl (vdec hcode) (by omega) (by show 2 * 0 + _ + 12 ≤ _; omega) (vgo_same kk hHR hS hL)
    · cases hs
  · cases hs
theorem vcpy_int (xs ys : List Int32) (sp dp n : Nat) : vcpy (xs.map Value.int) (ys.map Value.int) sp dp n = (ys.take dp ++ (xs.drop sp).take n ++ ys.drop (dp + n)).map Value.int := by
  unfold vcpy
  simp only [List.map_append, List.map_take, List.map_drop]
theorem vcpy_get (xs ys : List Int32) {sp dp n j : Nat} (h4 : sp + n ≤ xs.length) (h5 : dp + n ≤ ys.length) : (ys.take dp ++ (xs.drop sp).take n ++ ys.drop (dp + n)).getD j 0 = va_cpy (fun j => xs.getD j 0) (fun j => ys.getD j 0) sp dp n j := by
  simp only [List.getD_eq_getElem?_getD, va_cpy]
  by_cases h1 : j < dp
  · rw [if_neg (by omega), List.getElem?_append_left (by simp; omega), List.getElem?_append_left (by simp; omega), List.getElem?_take_of_lt h1]
  · by_cases h2 : j < dp + n
    · rw [if_pos (by omega), List.getElem?_append_left (by simp; omega), List.getElem?_append_right (by simp; omega), List.getElem?_take_of_lt (by simp; omega), List.getElem?_drop]
      congr 2
      simp
      omega
    · rw [if_neg (by omega), List.getElem?_append_right (by simp; omega), List.getElem?_drop]
      congr 2
      simp
      omega
set_option maxHeartbeats 4000000 in
theorem vsnd_stat {idx r1 r2 : Nat} {y : vS} (C : vCx D cA mi p R s m args meth c) (hcode : vcode mi pc = some (.invokestatic idx, 3, r1, r2)) (hs : vstep (.invokestatic idx, 3, r1, r2) pc ls st h = some y) (hL : vLs sb b ars ls (vmaxL mi)) (hHR : vHR D cA sb b s h H) (hS : va_S (vFr b) H0 H locs) (hc1 : cells ≤ R.cells) (hc2 : slots ≤ R.slots) (kk : vGo p l e R s m args below meth c Q D cA sb b mi H0 cells slots h y) : W p l e R s m args below meth c H locs cells slots Q (F0 m pc ars (st.map (vsh sb b))) := by
  obtain ⟨hx, hb, hml, hown, hts, hK, hfr, hlo, -⟩ := C
  have hrk := vrk_pos hcode
  simp only [vstep] at hs
  split at hs
  · rename_i n dp d sp s0 r
    split at hs
    · rename_i hr
      obtain ⟨hr1, hr2⟩ := hr
      subst hr1
      obtain ⟨w1, hlo1⟩ := vok_copy hcode
      have hsum := vcat_sum sb b hr2
      split at hs
      · rename_i ts f td g hf hg
        split at hs
        · rename_i hcond
          obtain ⟨rfl, rfl, g1, g2, g3, g4, g5⟩ := hcond
          cases hs
          obtain ⟨xs, rfl, hhx⟩ := vat_int (hHR.2.2.2 s0 _ hf).2 (Or.inl rfl)
          obtain ⟨ys, rfl, hhy⟩ := vat_int (hHR.2.2.2 d _ hg).2 (Or.inl rfl)
          rw [List.length_map] at g4 g5
          have h0 : d ≠ 0 := fun h0 => by have := (hHR.2.2.2 d _ hg).1.mp h0; simp at this
          have hlen : (ys.take dp.toNatClampNeg ++ (xs.drop sp.toNatClampNeg).take n.toNatClampNeg ++ ys.drop (dp.toNatClampNeg + n.toNatClampNeg)).length = ys.length := by simp; omega
          have hnf : nativeFrameWords "java/lang/System" "arraycopy" 5 = 7 := by decide +kernel
          refine vcopy hx hb (by rw [hml]; exact hL.1.symm) hown (hts _ w1) (hts _ vac.1) (hts _ vac.2.1) (hts _ vac.2.2) (hK.1.2 0 _ rfl).1 hhx hhy hS (vrho_fr h0) g1 g2 g3 g4 g5 (by omega) (by omega) (vdec hcode) fun H1 locs1 e1 e2 e3 e4 => ?_
          refine kk H1 locs1 ars cells slots (by simp) (by rw [vz_set h d (100, ys.map Value.int) _ hg (by rw [vcpy_int, List.length_map, List.length_map]; exact hlen)]; simp) hL (hHR.set hg (by omega) e2 e3 ?_) e4
          rw [vcpy_int]
          refine vat_mk_int (Or.inl rfl) ?_
          rw [e1, hlen]
          congr 1
          apply varr_congr
          intro j hj
          rw [vcpy_get xs ys g4 g5]
        · cases hs
      · cases hs
    · cases hs
  · rename_i y z r hnot
    split at hs
    · rename_i hr
      obtain ⟨hr1, hr2⟩ := hr
      subst hr1
      obtain ⟨w1, hlo1⟩ := vok_min hcode
      have hsum := vcat_sum sb b hr2
      cases hs
      exact va_mmin hx hb (by rw [hml]; exact hL.1.symm) hown (hts _ w1) (hts _ vmm.1) (hts _ vmm.2.1) (hts _ vmm.2.2) (by omega) (by omega) hc1 hc2 (vdec hcode) (vgo_same kk hHR hS hL)
    · cases hs
  · cases hs
end VSND2
