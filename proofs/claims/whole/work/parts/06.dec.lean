/-! all of them -/
theorem vall : ∀ i, i < 168 → ((vtab i).all fun y => vokB i y && vdecB i y && vparB y) = true := by
  intro i hi
  match i, hi with
  | 0, _ => exact vk0
  | 1, _ => exact vk1
  | 2, _ => exact vk2
  | 3, _ => exact vk3
  | 4, _ => exact vk4
  | 5, _ => exact vk5
  | 6, _ => exact vk6
  | 7, _ => exact vk7
  | 8, _ => exact vk8
  | 9, _ => exact vk9
  | 10, _ => exact vk10
  | 11, _ => exact vk11
  | 12, _ => exact vk12
  | 13, _ => exact vk13
  | 14, _ => exact vk14
  | 15, _ => exact vk15
  | 16, _ => exact vk16
  | 17, _ => exact vk17
  | 18, _ => exact vk18
  | 19, _ => exact vk19
  | 20, _ => exact vk20
  | 21, _ => exact vk21
  | 22, _ => exact vk22
  | 23, _ => exact vk23
  | 24, _ => exact vk24
  | 25, _ => exact vk25
  | 26, _ => exact vk26
  | 27, _ => exact vk27
  | 28, _ => exact vk28
  | 29, _ => exact vk29
  | 30, _ => exact vk30
  | 31, _ => exact vk31
  | 32, _ => exact vk32
  | 33, _ => exact vk33
  | 34, _ => exact vk34
  | 35, _ => exact vk35
  | 36, _ => exact vk36
  | 37, _ => exact vk37
  | 38, _ => exact vk38
  | 39, _ => exact vk39
  | 40, _ => exact vk40
  | 41, _ => exact vk41
  | 42, _ => exact vk42
  | 43, _ => exact vk43
  | 44, _ => exact vk44
  | 45, _ => exact vk45
  | 46, _ => exact vk46
  | 47, _ => exact vk47
  | 48, _ => exact vk48
  | 49, _ => exact vk49
  | 50, _ => exact vk50
  | 51, _ => exact vk51
  | 52, _ => exact vk52
  | 53, _ => exact vk53
  | 54, _ => exact vk54
  | 55, _ => exact vk55
  | 56, _ => exact vk56
  | 57, _ => exact vk57
  | 58, _ => exact vk58
  | 59, _ => exact vk59
  | 60, _ => exact vk60
  | 61, _ => exact vk61
  | 62, _ => exact vk62
  | 63, _ => exact vk63
  | 64, _ => exact vk64
  | 65, _ => exact vk65
  | 66, _ => exact vk66
  | 67, _ => exact vk67
  | 68, _ => exact vk68
  | 69, _ => exact vk69
  | 70, _ => exact vk70
  | 71, _ => exact vk71
  | 72, _ => exact vk72
  | 73, _ => exact vk73
  | 74, _ => exact vk74
  | 75, _ => exact vk75
  | 76, _ => exact vk76
  | 77, _ => exact vk77
  | 78, _ => exact vk78
  | 79, _ => exact vk79
  | 80, _ => exact vk80
  | 81, _ => exact vk81
  | 82, _ => exact vk82
  | 83, _ => exact vk83
  | 84, _ => exact vk84
  | 85, _ => exact vk85
  | 86, _ => exact vk86
  | 87, _ => exact vk87
  | 88, _ => exact vk88
  | 89, _ => exact vk89
  | 90, _ => exact vk90
  | 91, _ => exact vk91
  | 92, _ => exact vk92
  | 93, _ => exact vk93
  | 94, _ => exact vk94
  | 95, _ => exact vk95
  | 96, _ => exact vk96
  | 97, _ => exact vk97
  | 98, _ => exact vk98
  | 99, _ => exact vk99
  | 100, _ => exact vk100
  | 101, _ => exact vk101
  | 102, _ => exact vk102
  | 103, _ => exact vk103
  | 104, _ => exact vk104
  | 105, _ => exact vk105
  | 106, _ => exact vk106
  | 107, _ => exact vk107
  | 108, _ => exact vk108
  | 109, _ => exact vk109
  | 110, _ => exact vk110
  | 111, _ => exact vk111
  | 112, _ => exact vk112
  | 113, _ => exact vk113
  | 114, _ => exact vk114
  | 115, _ => exact vk115
  | 116, _ => exact vk116
  | 117, _ => exact vk117
  | 118, _ => exact vk118
  | 119, _ => exact vk119
  | 120, _ => exact vk120
  | 121, _ => exact vk121
  | 122, _ => exact vk122
  | 123, _ => exact vk123
  | 124, _ => exact vk124
  | 125, _ => exact vk125
  | 126, _ => exact vk126
  | 127, _ => exact vk127
  | 128, _ => exact vk128
  | 129, _ => exact vk129
  | 130, _ => exact vk130
  | 131, _ => exact vk131
  | 132, _ => exact vk132
  | 133, _ => exact vk133
  | 134, _ => exact vk134
  | 135, _ => exact vk135
  | 136, _ => exact vk136
  | 137, _ => exact vk137
  | 138, _ => exact vk138
  | 139, _ => exact vk139
  | 140, _ => exact vk140
  | 141, _ => exact vk141
  | 142, _ => exact vk142
  | 143, _ => exact vk143
  | 144, _ => exact vk144
  | 145, _ => exact vk145
  | 146, _ => exact vk146
  | 147, _ => exact vk147
  | 148, _ => exact vk148
  | 149, _ => exact vk149
  | 150, _ => exact vk150
  | 151, _ => exact vk151
  | 152, _ => exact vk152
  | 153, _ => exact vk153
  | 154, _ => exact vk154
  | 155, _ => exact vk155
  | 156, _ => exact vk156
  | 157, _ => exact vk157
  | 158, _ => exact vk158
  | 159, _ => exact vk159
  | 160, _ => exact vk160
  | 161, _ => exact vk161
  | 162, _ => exact vk162
  | 163, _ => exact vk163
  | 164, _ => exact vk164
  | 165, _ => exact vk165
  | 166, _ => exact vk166
  | 167, _ => exact vk167
  | n + 168, h => omega
theorem vdecl0 {t : Nat} {q : vw_C} (hq : vcl[t]? = some q) : ∀ k, k < q.2.2 → (q.2.1 k).1 = vcname t := by
  have ht : t < 10 := (List.getElem?_eq_some_iff.mp hq).1
  match t, ht, hq with
  | 0, _, hq => cases hq; exact (by decide +kernel)
  | 1, _, hq => cases hq; exact (by decide +kernel)
  | 2, _, hq => cases hq; exact (by decide +kernel)
  | 3, _, hq => cases hq; exact (by decide +kernel)
  | 4, _, hq => cases hq; exact (by decide +kernel)
  | 5, _, hq => cases hq; exact (by decide +kernel)
  | 6, _, hq => cases hq; exact (by decide +kernel)
  | 7, _, hq => cases hq; exact (by decide +kernel)
  | 8, _, hq => cases hq; exact (by decide +kernel)
  | 9, _, hq => cases hq; exact (by decide +kernel)
theorem vdecl {t : Nat} {q : vw_C} {k : Nat} (hq : vcl[t]? = some q) (hk : k < q.2.2) : (q.2.1 k).1 = vcname t := vdecl0 hq k hk
theorem vtab_lt {mi pc : Nat} {x : vI} (h : vcode mi pc = some x) : mi < 168 := by
  by_cases hl : mi < 168
  · exact hl
  · have e : vtL[mi]? = none := List.getElem?_eq_none (by show vtL.length ≤ mi; show 168 ≤ mi; omega)
    unfold vcode vtab at h
    rw [e] at h
    cases h
theorem vlk_mem {α : Type} {l : List (Nat × α)} {k : Nat} {x : α} (h : l.lookup k = some x) : (k, x) ∈ l := by
  induction l with
  | nil => cases h
  | cons c t ih =>
    obtain ⟨j, z⟩ := c
    rw [List.lookup_cons] at h
    split at h
    · rename_i hj
      cases h
      rw [eq_of_beq hj]
      exact List.mem_cons_self
    · exact List.mem_cons_of_mem _ (ih h)
theorem vchk {mi pc : Nat} {x : vI} (h : vcode mi pc = some x) : vokB mi (pc, x) = true ∧ vdecB mi (pc, x) = true ∧ vparB (pc, x) = true := by
  have h1 := List.all_eq_true.mp (vall mi (vtab_lt h)) _ (vlk_mem h)
  rw [Bool.and_eq_true, Bool.and_eq_true] at h1
  exact ⟨h1.1.1, h1.1.2, h1.2⟩
theorem vdec {mi pc : Nat} {i : Jvm.ClassFile.Instr} {len r1 r2 : Nat} (h : vcode mi pc = some (i, len, r1, r2)) : decode (vbytes mi) pc = .ok (i, len) := of_decide_eq_true (vchk h).2.1
theorem vmemB_ok {e : Nat × Nat × Nat} {l : List (Nat × Nat × Nat)} (h : vmemB e l = true) : e ∈ l := by
  unfold vmemB at h
  obtain ⟨z, hz, he⟩ := List.any_eq_true.mp h
  simp only [Bool.and_eq_true, beq_iff_eq] at he
  obtain ⟨⟨h1, h2⟩, h3⟩ := he
  have : z = e := by
    obtain ⟨a, b, c⟩ := z
    obtain ⟨d, f, g⟩ := e
    simp only at h1 h2 h3
    rw [h1, h2, h3]
  rw [← this]
  exact hz
theorem vflB_ok {a idx t k : Nat} (h : (vfl.any fun z => z.1 == a && z.2.1 == idx && z.2.2.1 == t && z.2.2.2 == k) = true) : vfOk (a, idx, t, k) := by
  obtain ⟨z, hz, he⟩ := List.any_eq_true.mp h
  simp only [Bool.and_eq_true, beq_iff_eq] at he
  obtain ⟨⟨⟨h1, h2⟩, h3⟩, h4⟩ := he
  have : z = (a, idx, t, k) := by
    obtain ⟨z1, z2, z3, z4⟩ := z
    simp only at h1 h2 h3 h4
    rw [h1, h2, h3, h4]
  rw [← this]
  exact vfl_ok z hz
theorem vlen_of {mi pc : Nat} {i : Jvm.ClassFile.Instr} {len r1 r2 n : Nat} (h : vcode mi pc = some (i, len, r1, r2)) (hn : vlen i = n) (h0 : n ≠ 0) : len = n := by
  have h1 := (vchk h).1
  simp only [vokB, Bool.and_eq_true, Bool.or_eq_true, beq_iff_eq, decide_eq_true_eq] at h1
  rcases h1.1.1 with h2 | h2
  · omega
  · omega
theorem vrk_pos {mi pc : Nat} {x : vI} (h : vcode mi pc = some x) : 1 ≤ vrk mi := by
  have h1 := (vchk h).1
  simp only [vokB, Bool.and_eq_true, decide_eq_true_eq] at h1
  exact h1.1.2
theorem vok_get {mi pc idx len r1 r2 : Nat} (h : vcode mi pc = some (.getfield idx, len, r1, r2)) : ∃ q, vcl[r1]? = some q ∧ r2 < q.2.2 ∧ vlinkF (vown mi) idx q r2 := by
  have h1 := (vchk h).1
  simp only [vokB, Bool.and_eq_true] at h1
  have h2 : vfOk (vco mi, idx, r1, r2) := vflB_ok h1.2
  exact h2
theorem vok_put {mi pc idx len r1 r2 : Nat} (h : vcode mi pc = some (.putfield idx, len, r1, r2)) : ∃ q, vcl[r1]? = some q ∧ r2 < q.2.2 ∧ vlinkF (vown mi) idx q r2 ∧ ((q.2.1 r2).2.2.2 = false ∨ ((q.2.1 r2).2.2.2 = true ∧ vkd mi = 2 ∧ (q.2.1 r2).1 = vown mi)) := by
  have h1 := (vchk h).1
  simp only [vokB, Bool.and_eq_true] at h1
  have h3 : vfOk (vco mi, idx, r1, r2) := vflB_ok h1.2.1
  obtain ⟨q, hq, hk, hl⟩ := h3
  refine ⟨q, hq, hk, hl, ?_⟩
  have h2 := h1.2.2
  simp only at hq
  rw [hq] at h2
  simp only [Bool.or_eq_true, Bool.not_eq_true', Bool.and_eq_true, beq_iff_eq] at h2
  cases hf : (q.2.1 r2).2.2.2 with
  | false => exact Or.inl rfl
  | true =>
    rcases h2 with h2 | h2
    · rw [hf] at h2; cases h2
    · exact Or.inr ⟨rfl, h2.1, by rw [vdecl hq hk, h2.2]; rfl⟩
theorem vok_new {mi pc idx len r1 r2 : Nat} (h : vcode mi pc = some (.new idx, len, r1, r2)) : ∃ q, vcl[r1]? = some q ∧ Cond.classLink (vown mi) idx q.1 ∈ vWS ∧ Cond.instantiable q.1 q.2.2 ∈ vWS ∧ Cond.initialized q.1 ∈ vWS := by
  have h1 := (vchk h).1
  simp only [vokB, Bool.and_eq_true] at h1
  exact vnw_ok _ (vmemB_ok h1.2)
theorem vok_anew {mi pc idx len r1 r2 : Nat} (h : vcode mi pc = some (.anewarray idx, len, r1, r2)) : Cond.classLink (vown mi) idx (vcn r1) ∈ vWS := by
  have h1 := (vchk h).1
  simp only [vokB, Bool.and_eq_true] at h1
  exact van_ok _ (vmemB_ok h1.2)
theorem vok_ldc {mi pc idx len r1 r2 : Nat} (h : vcode mi pc = some (.ldc idx, len, r1, r2)) : Cond.constant (vown mi) idx (Int32.ofNat r1) ∈ vWS := by
  have h1 := (vchk h).1
  simp only [vokB, Bool.and_eq_true] at h1
  exact vld_ok _ (vmemB_ok h1.2)
theorem vok_ldcw {mi pc idx len r1 r2 : Nat} (h : vcode mi pc = some (.ldc_w idx, len, r1, r2)) : Cond.constant (vown mi) idx (Int32.ofNat r1) ∈ vWS := by
  have h1 := (vchk h).1
  simp only [vokB, Bool.and_eq_true] at h1
  exact vld_ok _ (vmemB_ok h1.2)
theorem vok_if {mi pc len r1 r2 : Nat} {k : Jvm.ClassFile.Cond} {off : Int} (h : vcode mi pc = some (.ifCond k off, len, r1, r2)) : 0 ≤ (pc : Int) + off := by
  have h1 := (vchk h).1
  simp only [vokB, Bool.and_eq_true, decide_eq_true_eq] at h1
  exact h1.2
theorem vok_icmp {mi pc len r1 r2 : Nat} {k : Jvm.ClassFile.Cond} {off : Int} (h : vcode mi pc = some (.if_icmp k off, len, r1, r2)) : 0 ≤ (pc : Int) + off := by
  have h1 := (vchk h).1
  simp only [vokB, Bool.and_eq_true, decide_eq_true_eq] at h1
  exact h1.2
theorem vok_oinit {mi pc idx len r2 : Nat} (h : vcode mi pc = some (.invokespecial idx, len, 1000, r2)) : Cond.methodLink (vown mi) idx Lib.objectInit ∈ vWS ∧ 20 ≤ vlo mi := by
  have h1 := (vchk h).1
  simp only [vokB, Bool.and_eq_true, beq_self_eq_true, if_true, decide_eq_true_eq] at h1
  exact ⟨vnl_ok _ (vmemB_ok h1.2.1), h1.2.2⟩
theorem vok_copy {mi pc idx len r2 : Nat} (h : vcode mi pc = some (.invokestatic idx, len, 1001, r2)) : Cond.methodLink (vown mi) idx arraycopyName ∈ vWS ∧ 26 ≤ vlo mi := by
  have h1 := (vchk h).1
  simp only [vokB, Bool.and_eq_true, beq_self_eq_true, if_true, decide_eq_true_eq] at h1
  exact ⟨vnl_ok _ (vmemB_ok h1.2.1), h1.2.2⟩
theorem vok_min {mi pc idx len r2 : Nat} (h : vcode mi pc = some (.invokestatic idx, len, 1002, r2)) : Cond.methodLink (vown mi) idx Lib.Math.min.name ∈ vWS ∧ 21 ≤ vlo mi := by
  have h1 := (vchk h).1
  simp only [vokB, Bool.and_eq_true, beq_self_eq_true, if_true, decide_eq_true_eq, show ((1002 : Nat) == 1001) = false from rfl, Bool.false_eq_true, if_false] at h1
  exact ⟨vnl_ok _ (vmemB_ok h1.2.1), h1.2.2⟩
theorem vids_stat {i : Nat} (h : vids.contains i = true) : vstat i := vids_ok i (List.contains_iff_mem.mp h)
theorem vok_inv {mi pc idx len cm na : Nat} (h : vcode mi pc = some (.invokevirtual idx, len, cm, na)) : vlinkM (vown mi) idx (vy cm) ∧ vstat cm ∧ vkd cm = 1 ∧ 1 ≤ na ∧ na ≤ vmaxL cm ∧ vrk cm < vrk mi ∧ 8 + (vmaxL cm + 11) + vlo cm ≤ vlo mi ∧ (parseMethodDescriptor (vy cm).desc).map (fun d => d.parameters.length) = some (na - 1) := by
  obtain ⟨h1, -, h3⟩ := vchk h
  simp only [vokB, Bool.and_eq_true, beq_iff_eq, decide_eq_true_eq] at h1
  obtain ⟨-, ⟨⟨⟨⟨⟨⟨a1, a2⟩, a3⟩, a4⟩, a5⟩, a6⟩, a7⟩⟩ := h1
  simp only [vparB, decide_eq_true_eq] at h3
  exact ⟨vml_ok _ (vmemB_ok a1), vids_stat a2, a3, a4, a5, a6, a7, h3⟩
theorem vok_stat {mi pc idx len cm na : Nat} (h : vcode mi pc = some (.invokestatic idx, len, cm, na)) (hc : cm < 1000) : vlinkM (vown mi) idx (vy cm) ∧ vstat cm ∧ vkd cm = 0 ∧ na ≤ vmaxL cm ∧ vrk cm < vrk mi ∧ 8 + (vmaxL cm + 11) + vlo cm ≤ vlo mi ∧ (parseMethodDescriptor (vy cm).desc).map (fun d => d.parameters.length) = some na := by
  obtain ⟨h1, -, h3⟩ := vchk h
  have e1 : (cm == 1001) = false := by simp; omega
  have e2 : (cm == 1002) = false := by simp; omega
  simp only [vokB, e1, e2, Bool.false_eq_true, if_false, Bool.and_eq_true, beq_iff_eq, decide_eq_true_eq] at h1
  obtain ⟨-, ⟨⟨⟨⟨⟨a1, a2⟩, a3⟩, a5⟩, a6⟩, a7⟩⟩ := h1
  simp only [vparB, Bool.or_eq_true, decide_eq_true_eq] at h3
  refine ⟨vml_ok _ (vmemB_ok a1), vids_stat a2, a3, a5, a6, a7, ?_⟩
  rcases h3 with h3 | h3
  · omega
  · exact h3
theorem vok_spec {mi pc idx len cm na : Nat} (h : vcode mi pc = some (.invokespecial idx, len, cm, na)) (hc : cm < 1000) : vlinkM (vown mi) idx (vy cm) ∧ vstat cm ∧ vkd cm = 2 ∧ 1 ≤ na ∧ na ≤ vmaxL cm ∧ vrk cm < vrk mi ∧ 8 + (vmaxL cm + 11) + vlo cm ≤ vlo mi ∧ (parseMethodDescriptor (vy cm).desc).map (fun d => d.parameters.length) = some (na - 1) := by
  obtain ⟨h1, -, h3⟩ := vchk h
  have e1 : (cm == 1000) = false := by simp; omega
  simp only [vokB, e1, Bool.false_eq_true, if_false, Bool.and_eq_true, beq_iff_eq, decide_eq_true_eq] at h1
  obtain ⟨-, ⟨⟨⟨⟨⟨⟨a1, a2⟩, a3⟩, a4⟩, a5⟩, a6⟩, a7⟩⟩ := h1
  simp only [vparB, Bool.or_eq_true, decide_eq_true_eq] at h3
  refine ⟨vml_ok _ (vmemB_ok a1), vids_stat a2, a3, a4, a5, a6, a7, ?_⟩
  rcases h3 with h3 | h3
  · omega
  · exact h3
