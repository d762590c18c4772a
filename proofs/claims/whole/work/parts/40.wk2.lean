/-! working out: rounds -/
theorem apF_ok {B D : List Nat} {N : Nat} (bb : ∀ x ∈ B, x < 256) (bd : ∀ x ∈ D, x < 256) : ∀ n p ts us, (∀ x ∈ ts, x < 256) → apF B D N n p ts = some us → ∀ x ∈ us, x < 256 := by
  intro n
  induction n with
  | zero => intro p ts us ht h; unfold apF at h; cases h; exact ht
  | succ n ih =>
    intro p ts us ht h
    unfold apF at h
    split at h
    · split at h
      · cases h
      · split at h
        · split at h
          · refine ih _ _ _ ?_ h
            intro x hx
            rcases List.mem_append.mp hx with q | q
            · exact ht x q
            · exact bd x (List.mem_of_mem_drop (List.mem_of_mem_take q))
          · cases h
        · split at h
          · refine ih _ _ _ ?_ h
            intro x hx
            rcases List.mem_append.mp hx with q | q
            · exact ht x q
            · exact bb x (List.mem_of_mem_drop (List.mem_of_mem_take q))
          · cases h
    · cases h; exact ht
theorem apL_ok {B D us : List Nat} {N : Nat} (bb : ∀ x ∈ B, x < 256) (bd : ∀ x ∈ D, x < 256) (h : apL B D N = some us) : ∀ x ∈ us, x < 256 := by
  unfold apL at h
  split at h
  · cases h
  · split at h
    · cases h
    · rename_i ts hts
      split at h
      · cases h
        exact apF_ok bb bd _ _ _ _ (by simp) hts
      · cases h
theorem ShelfIs.fr {S S1 : vSt} {P : Nat → Nat → Prop} {A : Nat → Prop} {sh cap : Nat} {os : List Obj} (h : ShelfIs S sh cap os) (hf : Fr S S1 P A) (h1 : ∀ b j, P b j → b < sh ∨ sh + 2 + 3 * cap ≤ b) (h2 : ∀ b, A b → b < sh ∨ sh + 2 + 3 * cap ≤ b) : ShelfIs S1 sh cap os := by
  obtain ⟨g1, g2, g3, g4, g5⟩ := h
  have n1 : ∀ b j, sh ≤ b → b < sh + 2 + 3 * cap → ¬ P b j := fun b j q1 q2 q => by have := h1 b j q; omega
  have n2 : ∀ b, sh ≤ b → b < sh + 2 + 3 * cap → ¬ A b := fun b q1 q2 q => by have := h2 b q; omega
  refine ⟨g1, g2, by rw [hf.1 _ _ (n1 _ _ (by omega) (by omega)), g3], fun i o ho => ?_, fun i hi => by rw [hf.2 _ (n2 _ (by omega) (by omega)), g5 i hi]⟩
  have hi : i < os.length := (List.getElem?_eq_some_iff.mp ho).1
  exact (g4 i o ho).fr hf (fun j => n1 _ _ (by omega) (by omega)) (fun j => n1 _ _ (by omega) (by omega)) (n2 _ (by omega) (by omega))
def PW : Nat → Nat → Prop := fun b _ => 153 ≤ b ∧ b < 249
theorem PI_PW {e : Nat} (he : e < 16) : ∀ b j, PI e b j → PW b j := by
  rintro b j (⟨q, q2⟩ | q | q) <;> exact ⟨by omega, by omega⟩
theorem AI_AR {e : Nat} (he : e < 16) : ∀ b, AI e b → AR b := by
  intro b q
  have q : b = 158 + 6 * e := q
  exact ⟨by omega, by omega⟩
theorem WkAt.set {S S1 : vSt} {es : List Ent} {ws : Wk} {e : Nat} {w : Option Obj} (h : WkAt S es ws) (hf : Fr S S1 (PI e) (AI e)) (ho : OneWk S1 e w) (hl : (S1.2 (158 + 6 * e)).length = 24) (hw : w = none → ws[e]? = some none) : WkAt S1 es (ws.set e w) := by
  obtain ⟨h1, h2, h3, h4, h5⟩ := h
  refine ⟨h1.wk hf, by rw [List.length_set]; exact h2, fun i x hx => ?_, fun i en hi hx => ?_, fun i hi => ?_⟩
  · by_cases q : e = i
    · subst q
      have hlt : e < ws.length := by
        have := (List.getElem?_eq_some_iff.mp hx).1
        rwa [List.length_set] at this
      rw [List.getElem?_set_self hlt] at hx
      cases hx
      exact ho
    · rw [List.getElem?_set_ne q] at hx
      exact (h3 i x hx).wk hf (fun z => q z.symm)
  · by_cases q : e = i
    · subst q
      have hlt : e < ws.length := by
        have := (List.getElem?_eq_some_iff.mp hx).1
        rwa [List.length_set] at this
      rw [List.getElem?_set_self hlt] at hx
      cases hx
      exact h4 e en hi (hw rfl)
    · rw [List.getElem?_set_ne q] at hx
      exact h4 i en hi hx
  · by_cases q : e = i
    · subst q; exact hl
    · rw [hf.2 _ (by intro z; have z : 158 + 6 * i = 158 + 6 * e := z; omega), h5 i hi]
def wkOne (cs : List Obj) (ws : Wk) (en : Ent) : Option Obj := match bsOf cs ws en with
  | none => none
  | some o => (apL o.2 en.2.2.2.2 24).map fun c => (o.1, c)
def wkRnd (cs : List Obj) (es : List Ent) : Nat → Nat → Wk → Nat → Wk × Nat
  | 0, _, ws, n => (ws, n)
  | k + 1, i, ws, n => match es[i]? with
    | none => (ws, n)
    | some en => if ws[i]? = some none then match wkOne cs ws en with
        | none => wkRnd cs es k (i + 1) ws n
        | some o => wkRnd cs es k (i + 1) (ws.set i (some o)) (n + 1)
      else wkRnd cs es k (i + 1) ws n
theorem c_round_loop {cs : List Obj} {es : List Ent} : ∀ k i ws n S v3 v4, i + k = es.length → WkAt S es ws → ws.length = es.length → ShelfIs S 54 24 cs → n ≤ i → ∃ S1, runv 124 4 [some (.ref 151), some (.int (nI n)), some (.int (nI i)), v3, v4] [] (hp S) = some (some (.int (nI (wkRnd cs es k i ws n).2)), hp S1) ∧ Fr S S1 PW AR ∧ WkAt S1 es (wkRnd cs es k i ws n).1 ∧ (wkRnd cs es k i ws n).1.length = es.length := by
  intro k
  induction k with
  | zero =>
    intro i ws n S v3 v4 hi hW hlen hC hn
    have h16 := hW.1.le
    refine ⟨S, ?_, Fr.rf, hW, hlen⟩
    rw [s124_4]
    simp only [s124_5, s124_6, s124_9, s124_90, s124_91, r3, hW.1.n]
    rw [if_pos (nI_le (by omega) (by omega))]
    rfl
  | succ k ih =>
    intro i ws n S v3 v4 hi hW hlen hC hn
    have h16 := hW.1.le
    have hil : i < es.length := by omega
    have he : es[i]? = some es[i] := List.getElem?_eq_getElem hil
    have hwi : ws[i]? = some (ws[i]'(by omega)) := List.getElem?_eq_getElem (by omega)
    have hone := hW.2.2.1 i _ hwi
    have hEi := isEnt_e (show i < 16 by omega)
    have hE := hW.1.is i _ he
    have hk := hW.1.ok i _ he
    have x1 : 153 + 6 * i + 1 = 154 + 6 * i := by omega
    have x3 : 153 + 6 * i + 3 = 156 + 6 * i := by omega
    have hI : isItem (156 + 6 * i) (157 + 6 * i) (158 + 6 * i) := by
      have := hEi.2.2
      rwa [x3, show 153 + 6 * i + 4 = 157 + 6 * i by omega, show 153 + 6 * i + 5 = 158 + 6 * i by omega] at this
    have t0 := fun S => rtR (S := S)
    have t2 := fun S => itt (S := S) hI
    have start : runv 124 4 [some (.ref 151), some (.int (nI n)), some (.int (nI i)), v3, v4] [] (hp S) = if (ws[i]'(by omega)).isSome = true then runv 124 26 [some (.ref 151), some (.int (nI n)), some (.int (nI i)), some (.ref (153 + 6 * i)), v4] [] (hp S) else vbind (callv 125 [.ref 151, .ref (153 + 6 * i)] (hp S)) (fun v h' => runv 124 35 [some (.ref 151), some (.int (nI n)), some (.int (nI i)), some (.ref (153 + 6 * i)), v4] (vpush v []) h') := by
      rw [s124_4]
      simp only [s124_5, s124_6, s124_9, s124_12, s124_13, s124_16, s124_17, s124_18, n124_18, s124_19, n124_19, s124_20, s124_23, s124_30, s124_31, n124_31, s124_32, r2, r3, hW.1.n, re_get (show i < 16 by omega), n6 hEi, hone.1, if_bI, List.length_cons, List.length_nil, Nat.reduceAdd, Nat.reduceLeDiff, Nat.zero_le, t0]
      rw [if_neg (nI_ge (by omega) (by omega))]
    have step : ∀ S1 m v, runv 124 84 [some (.ref 151), some (.int (nI m)), some (.int (nI i)), some (.ref (153 + 6 * i)), v] [] (hp S1) = runv 124 4 [some (.ref 151), some (.int (nI m)), some (.int (nI (i + 1))), some (.ref (153 + 6 * i)), v] [] (hp S1) := fun S1 m v => by
      simp only [s124_84, s124_87, nI_1]
    rw [start]
    unfold wkRnd
    rw [he]
    simp only
    cases hw : ws[i]'(by omega) with
    | some o =>
      rw [hw] at hwi
      rw [if_pos (show (some o).isSome = true from rfl), hwi, if_neg (by simp)]
      obtain ⟨S1, g1, g2⟩ := ih (i + 1) ws n S (some (.ref (153 + 6 * i))) (some .null) (by omega) hW hlen hC (by omega)
      refine ⟨S1, ?_, g2⟩
      simp only [s124_26, s124_27, n124_35, n124_37, n124_39, step]
      exact g1
    | none =>
      rw [hw] at hwi
      rw [if_neg (by simp), if_pos hwi]
      have h3 := hW.2.2.2.1 i _ he hwi
      have hb := c_baseOf hW hlen hC he h3
      unfold wkOne
      cases hbs : bsOf cs ws es[i] with
      | none =>
        rw [hbs] at hb
        simp only at hb ⊢
        obtain ⟨S1, g1, g2⟩ := ih (i + 1) ws n S (some (.ref (153 + 6 * i))) (some .null) (by omega) hW hlen hC (by omega)
        refine ⟨S1, ?_, g2⟩
        rw [hb]
        simp only [vbind_some, vpush_some, n124_35, n124_37, n124_39, step]
        exact g1
      | some o =>
        rw [hbs] at hb
        simp only at hb ⊢
        obtain ⟨ad, b1, b2, b3⟩ := hb
        have hne : ad + 1 ≠ 157 + 6 * i ∧ ad + 2 ≠ 158 + 6 * i ∧ ad ≠ 157 + 6 * i := by
          rcases b3 with q | ⟨j, q1, q2⟩
          · omega
          · have : j ≠ i := by
              intro z
              rw [z, hwi] at q2
              cases q2
            omega
        have t3 := fun S => itt (S := S) b2.1
        obtain ⟨us, a1, a2, a3⟩ := c_apply b2.2.1 hE.2.2.2.2 hI.2 (hW.2.2.2.2 i (by omega)) (by omega) hk.2.2.2.2.2.1 hne.1 hne.2.1 (by omega) (by omega)
        have mid : vbind (callv 125 [.ref 151, .ref (153 + 6 * i)] (hp S)) (fun v h' => runv 124 35 [some (.ref 151), some (.int (nI n)), some (.int (nI i)), some (.ref (153 + 6 * i)), v4] (vpush v []) h') = if (apL o.2 es[i].2.2.2.2 24).isSome = true then runv 124 64 [some (.ref 151), some (.int (nI n)), some (.int (nI i)), some (.ref (153 + 6 * i)), some (.ref ad)] [] (hp (rowSet S (157 + 6 * i) (158 + 6 * i) us)) else runv 124 84 [some (.ref 151), some (.int (nI n)), some (.int (nI i)), some (.ref (153 + 6 * i)), some (.ref ad)] [] (hp (rowSet S (157 + 6 * i) (158 + 6 * i) us)) := by
          rw [b1]
          simp only [vbind_some, vpush_some, s124_35, n124_35, s124_37, n124_37, s124_39, n124_39, s124_42, n124_42, s124_44, s124_47, n124_47, s124_48, s124_51, n124_51, s124_52, s124_55, s124_58, s124_61, List.length_cons, List.length_nil, Nat.reduceAdd, Nat.reduceLeDiff, Nat.zero_le, t2, t3, c_bytes b2.1, c_bytes hI, n0 hEi, n1 hEi, x1, x3, a1, if_bI]
        rw [mid]
        have hR1 : RowIs (rowSet S (157 + 6 * i) (158 + 6 * i) us) (157 + 6 * i) (158 + 6 * i) 24 us := by
          have := row_nil (S := S) hI.2 (hW.2.2.2.2 i (by omega)) (by omega)
          have := this.set (cs := us) a2
          rwa [rowSet_fu0] at this
        have F1 : Fr S (rowSet S (157 + 6 * i) (158 + 6 * i) us) (PI i) (AI i) := Fr.row (Or.inr (Or.inr rfl)) rfl
        cases hap : apL o.2 es[i].2.2.2.2 24 with
        | none =>
          rw [if_neg (by simp)]
          simp only [Option.map_none, step]
          have hW1 : WkAt (rowSet S (157 + 6 * i) (158 + 6 * i) us) es (ws.set i none) := by
            refine hW.set F1 ⟨?_, fun z hz => by cases hz⟩ hR1.2.2.1 (fun _ => hwi)
            rw [hw] at hone
            rw [rowSet, au_1, fu_a _ _ (by omega), hone.1]
          have es0 : ws.set i none = ws := by
            apply List.ext_getElem?
            intro j
            by_cases q : i = j
            · subst q; rw [List.getElem?_set_self (by omega), hwi]
            · rw [List.getElem?_set_ne q]
          rw [es0] at hW1
          have hC1 := hC.fr F1 (fun b j q => by have := PI_PW (show i < 16 by omega) b j q; unfold PW at this; omega) (fun b q => by have := AI_AR (show i < 16 by omega) b q; unfold AR at this; omega)
          obtain ⟨S1, g1, g2, g3⟩ := ih (i + 1) ws n _ (some (.ref (153 + 6 * i))) (some (.ref ad)) (by omega) hW1 hlen hC1 (by omega)
          exact ⟨S1, g1, (F1.mono (PI_PW (by omega)) (AI_AR (by omega))).tr g2, g3⟩
        | some c =>
          have hc := a3 c hap
          subst hc
          have cb := apL_ok b2.2.2.2.2.1 hk.2.2.2.2.2.1 hap
          rw [if_pos (show (some us).isSome = true from rfl)]
          simp only [Option.map_some]
          have k1 : (rowSet S (157 + 6 * i) (158 + 6 * i) us).1 ad 1 = nI o.1 := by rw [rowSet, au_1, fu_a _ _ hne.2.2, b2.2.2.1]
          have hfin := c_finish hI hR1 cb (k := o.1) (by have := b2.2.2.2.2.2; omega)
          have n6t : ∀ (S : vSt) (K2 : vH → Option (Option Value × vH)), vpf (hp S) (153 + 6 * i) 7 6 (.int 1) K2 = K2 (hp (fu S (153 + 6 * i) 6 (bI true))) := fun S K2 => n6p hEi (b := true)
          have fin : runv 124 64 [some (.ref 151), some (.int (nI n)), some (.int (nI i)), some (.ref (153 + 6 * i)), some (.ref ad)] [] (hp (rowSet S (157 + 6 * i) (158 + 6 * i) us)) = runv 124 84 [some (.ref 151), some (.int (nI (n + 1))), some (.int (nI i)), some (.ref (153 + 6 * i)), some (.ref ad)] [] (hp (fu (itemSet S (156 + 6 * i) (157 + 6 * i) (158 + 6 * i) o.1 us) (153 + 6 * i) 6 (bI true))) := by
            simp only [s124_64, n124_64, s124_65, s124_68, n124_68, s124_70, s124_73, s124_76, n124_76, s124_77, s124_78, s124_81, n1 hEi, x3, List.length_cons, List.length_nil, Nat.reduceAdd, Nat.reduceLeDiff, Nat.zero_le, t2, t3, c_sort b2.1, k1, hfin, vbind_some, vpush_some, vpush_none, nI_1, n6t]
            rfl
          rw [fin, step]
          have F2 : Fr S (fu (itemSet S (156 + 6 * i) (157 + 6 * i) (158 + 6 * i) o.1 us) (153 + 6 * i) 6 (bI true)) (PI i) (AI i) := (Fr.item (fun j => Or.inr (Or.inl rfl)) (Or.inr (Or.inr rfl)) (show AI i (158 + 6 * i) from rfl)).tr (Fr.fu (show PI i (153 + 6 * i) 6 from Or.inl ⟨rfl, rfl⟩))
          have hit : ItemIs (itemSet S (156 + 6 * i) (157 + 6 * i) (158 + 6 * i) o.1 us) (156 + 6 * i) (157 + 6 * i) (158 + 6 * i) o.1 us := ItemIs.set hI (hW.2.2.2.2 i (by omega)) cb b2.2.2.2.2.2 a2
          have hW2 : WkAt (fu (itemSet S (156 + 6 * i) (157 + 6 * i) (158 + 6 * i) o.1 us) (153 + 6 * i) 6 (bI true)) es (ws.set i (some (o.1, us))) := by
            refine hW.set F2 ⟨by rw [fu_at]; rfl, fun z hz => ?_⟩ hit.2.1.2.2.1 (fun z => by cases z)
            cases hz
            exact hit.congr (fun j => fu_a _ _ (by omega)) (fun j => fu_a _ _ (by omega)) rfl
          have hC2 := hC.fr F2 (fun b j q => by have := PI_PW (show i < 16 by omega) b j q; unfold PW at this; omega) (fun b q => by have := AI_AR (show i < 16 by omega) b q; unfold AR at this; omega)
          obtain ⟨S1, g1, g2, g3⟩ := ih (i + 1) (ws.set i (some (o.1, us))) (n + 1) _ (some (.ref (153 + 6 * i))) (some (.ref ad)) (by omega) hW2 (by rw [List.length_set]; exact hlen) hC2 (by omega)
          exact ⟨S1, g1, (F2.mono (PI_PW (by omega)) (AI_AR (by omega))).tr g2, g3⟩
