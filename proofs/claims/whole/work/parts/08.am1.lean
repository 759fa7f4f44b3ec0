/-! THE ABSTRACT WALK: memory M (cell number, slot), locals and stack of ints and cell numbers; AW is the walk at a pc in any machine context, AM a method's contract -/
def cvv (ad : Nat → Nat) : Value → Value
  | .ref k => .ref (ad k)
  | v => v
def svl (ad : Nat → Nat) (M : Mem) (k j : Nat) : SD → Value
  | .inl r => .ref (ad r)
  | .inr false => .int (M k j)
  | .inr true => .ref (ad (M k j).toNatClampNeg)
def avl (M : Mem) (k j : Nat) : SD → Value
  | .inl r => .ref r
  | .inr false => .int (M k j)
  | .inr true => .ref (M k j).toNatClampNeg
theorem cvv_avl {ad : Nat → Nat} {M : Mem} {k j : Nat} (sd : SD) : cvv ad (avl M k j sd) = svl ad M k j sd := by rcases sd with r | (_ | _) <;> rfl
def sdL (ad : Nat → Nat) (M : Mem) (k : Nat) (sds : List SD) : List Value := sds.mapIdx (fun j sd => svl ad M k j sd)
theorem sdL_at {ad : Nat → Nat} {M : Mem} {k j : Nat} {sds : List SD} {sd : SD} (h : sds[j]? = some sd) : (sdL ad M k sds)[j]? = some (svl ad M k j sd) := by
  rw [sdL, List.getElem?_mapIdx, h]; rfl
theorem sdL_len {ad : Nat → Nat} {M : Mem} {k : Nat} {sds : List SD} : (sdL ad M k sds).length = sds.length := by rw [sdL, List.length_mapIdx]
theorem svl_off {ad : Nat → Nat} {M M' : Mem} {k j : Nat} (sd : SD) (h : M k j = M' k j) : svl ad M k j sd = svl ad M' k j sd := by
  rcases sd with r | (_ | _)
  · rfl
  · show Value.int _ = Value.int _; rw [h]
  · show Value.ref _ = Value.ref _; rw [h]
theorem sdL_set {ad : Nat → Nat} {M : Mem} {k j : Nat} {sds : List SD} {sd : SD} {x : Int32} (h : sds[j]? = some sd) : (sdL ad M k sds).set j (svl ad (va_up M k (upd (M k) j x)) k j sd) = sdL ad (va_up M k (upd (M k) j x)) k sds := by
  apply List.ext_getElem?
  intro i
  have hl : j < (sdL ad M k sds).length := by rw [sdL_len]; exact (List.getElem?_eq_some_iff.mp h).1
  by_cases hi : i = j
  · subst hi
    rw [List.getElem?_set_self hl, sdL_at h]
  · rw [List.getElem?_set_ne (Ne.symm hi), sdL, sdL, List.getElem?_mapIdx, List.getElem?_mapIdx]
    cases hq : sds[i]? with
    | none => rfl
    | some q =>
      refine congrArg some (svl_off q ?_)
      show M k i = (if k = k then upd (M k) j x else M k) i
      rw [if_pos rfl]
      show M k i = if i = j then x else M k i
      rw [if_neg hi]
abbrev G3 : Type := ClassId × ClassId × ClassId
def entC (g : G3) (ad : Nat → Nat) (M : Mem) (k : Nat) : CD → va_E
  | .inl q => .inr (q.1, sdL ad M k q.2)
  | .inr (.inl q) => .inl (if q.1 then g.2.1 else g.1, q.2, .inl (M k))
  | .inr (.inr rs) => .inl (g.2.2, rs.length, .inr (.inr (.inr (.inr (fun i => (rs[i]?).map ad)))))
def entD (g : G3) (ad : Nat → Nat) (M : Mem) (k : Nat) : va_E := entC g ad M k (cellD k)
def wsD (g : G3) (ad : Nat → Nat) (M : Mem) : va_W := (List.range K0).map (fun k => (ad k, entD g ad M k))
theorem wsD_at {g : G3} {ad : Nat → Nat} {M : Mem} {k : Nat} (hk : k < K0) : (wsD g ad M)[k]? = some (ad k, entD g ad M k) := by
  rw [wsD, List.getElem?_map, List.getElem?_range hk]; rfl
theorem wsD_some {g : G3} {ad : Nat → Nat} {M : Mem} {k : Nat} {q : Nat × va_E} (h : (wsD g ad M)[k]? = some q) : k < K0 ∧ q = (ad k, entD g ad M k) := by
  have hl := (List.getElem?_eq_some_iff.mp h).1
  rw [wsD, List.length_map, List.length_range] at hl
  rw [wsD_at hl] at h
  exact ⟨hl, (Option.some.inj h).symm⟩
theorem entC_off {g : G3} {ad : Nat → Nat} {M M' : Mem} {k : Nat} (h : M k = M' k) (c : CD) : entC g ad M k c = entC g ad M' k c := by
  rcases c with q | (q | rs)
  · show Sum.inr _ = Sum.inr _
    have : sdL ad M k q.2 = sdL ad M' k q.2 := by
      rw [sdL, sdL]
      congr 1
      funext j sd
      exact svl_off sd (by rw [h])
    rw [this]
  · show Sum.inl _ = Sum.inl _
    rw [h]
  · rfl
theorem wsD_set {g : G3} {ad : Nat → Nat} {M : Mem} {k : Nat} (row : Nat → Int32) {e : va_E} (he : e = entD g ad (va_up M k row) k) : (wsD g ad M).set k (ad k, e) = wsD g ad (va_up M k row) := by
  subst he
  apply List.ext_getElem?
  intro i
  by_cases hi : i = k
  · subst hi
    by_cases hK : i < K0
    · rw [List.getElem?_set_self (by rw [wsD, List.length_map, List.length_range]; exact hK), wsD_at hK]
    · rw [List.getElem?_eq_none (by rw [List.length_set, wsD, List.length_map, List.length_range]; omega), List.getElem?_eq_none (by rw [wsD, List.length_map, List.length_range]; omega)]
  · rw [List.getElem?_set_ne (Ne.symm hi)]
    by_cases hK : i < K0
    · rw [wsD_at hK, wsD_at hK, entD, entD, entC_off (M' := va_up M k row)]
      show M i = if i = k then row else M i
      rw [if_neg hi]
    · rw [List.getElem?_eq_none (by rw [wsD, List.length_map, List.length_range]; omega), List.getElem?_eq_none (by rw [wsD, List.length_map, List.length_range]; omega)]
/-- the cells that may change -/
def AD (ad : Nat → Nat) : Nat → Prop := fun q => ∃ k, k < K0 ∧ q = ad k
def InjD (ad : Nat → Nat) : Prop := ∀ i j, i < K0 → j < K0 → ad i = ad j → i = j
theorem wsD_D {g : G3} {ad : Nat → Nat} {M : Mem} (h : InjD ad) : va_D (AD ad) (wsD g ad M) := by
  refine ⟨fun i j p q hi hj hpq => ?_, fun k q hk => ?_⟩
  · obtain ⟨h1, rfl⟩ := wsD_some hi
    obtain ⟨h2, rfl⟩ := wsD_some hj
    exact h i j h1 h2 hpq
  · obtain ⟨h1, rfl⟩ := wsD_some hk
    exact ⟨k, h1, rfl⟩
def tyD (g : G3) : List (ClassId × FieldType) := [(g.1, .int), (g.2.1, .byte), (g.2.2, .object RX2)]
/-- what stays of a state: classes, array classes, the addresses apart, the nest's links, the texts -/
def STc (D : va_G) (g : G3) (ad adV : Nat → Nat) (U : State) : Prop :=
  va_K D vwCl (tyD g) U ∧ InjD ad ∧ (∀ q ∈ nestW, va_Nw (.methodLinkNest q.1 q.2.1 q.2.2.1 q.2.2.2) U) ∧ (∀ (i : Nat) (q : Nat × String × List Int32), strT[i]? = some q → vk_R RX3 q.1 q.2.1 (ad (1000 + i)) U) ∧ vk_S strT.length (strT.map fun q => q.2.2.length) (strT.map fun q => q.2.2) (fun i => ad (1000 + i)) (fun i => ad (2000 + i)) (AD ad) U U.heap ∧ va_Z "java/lang/String" "COMPACT_STRINGS" "Z" (.int 1) (AD ad) U U.heap
theorem STc.go {D : va_G} {g : G3} {ad adV : Nat → Nat} {s U : State} {H : Heap} {locs : List Loc} (h : STc D g ad adV s) (hS : va_S (AD ad) s.heap H locs) (hU : U.heap = H) (hW : s.WarmedH U.vm) : STc D g ad adV U := by
  obtain ⟨h1, h2, h3, h4, h5, h6⟩ := h
  refine ⟨va_K.moved hW.alike h1, h2, fun q hq => va_Nw.warmM hW (h3 q hq), fun i q hq => vk_R.warm hW (h4 i q hq), ?_, ?_⟩
  · exact (vk_S.moved hW.alike h5).kept (fun a ha hA => by rw [hU]; exact hS.2.1 a ha hA)
  · exact (va_Z.moved hW.alike h6).kept (fun a ha hA => by rw [hU]; exact hS.2.1 a ha hA)
theorem STc.call {D : va_G} {g : G3} {ad adV : Nat → Nat} {U : State} (h : STc D g ad adV U) (f : JFrame) (mk : MethodId) (a : Array Value) : STc D g ad adV (U.calling f mk a) := by
  obtain ⟨h1, h2, h3, h4, h5, h6⟩ := h
  refine ⟨va_K.moved (u := U) (U := U.calling f mk a) (Vm.Alike.refl U.vm) h1, h2, fun q hq => va_Nw.same rfl rfl (h3 q hq), fun i q hq => vk_R.same rfl (h4 i q hq), ?_, ?_⟩
  · exact vk_S.moved (u := U) (U := U.calling f mk a) (Vm.Alike.refl U.vm) h5
  · exact va_Z.moved (u := U) (U := U.calling f mk a) (Vm.Alike.refl U.vm) h6
def rmD (d : Nat) : Room := { frames := d, cells := 0, slots := 0, locals := 64 * d }
/-- the locals -/
def lhas (ad : Nat → Nat) (ls : Array Slot) (nL : Nat) (L : List (Option Value)) : Prop := ls.size = nL ∧ lv_wf ls ∧ ∀ (i : Nat) (v : Value), L[i]? = some (some v) → v.category = 1 ∧ ls[i]? = some (.val (cvv ad v))
theorem cvv_cat {ad : Nat → Nat} (v : Value) : (cvv ad v).category = v.category := by cases v <;> rfl
def lof (ad : Nat → Nat) (L : List (Option Value)) : List (Nat × Value) := (List.range L.length).filterMap (fun i => match L[i]? with | some (some v) => some (i, cvv ad v) | _ => none)
theorem lof_mem {ad : Nat → Nat} {L : List (Option Value)} {q : Nat × Value} : q ∈ lof ad L ↔ ∃ v, L[q.1]? = some (some v) ∧ q.2 = cvv ad v := by
  constructor
  · intro h
    obtain ⟨i, hi, hq⟩ := List.mem_filterMap.mp h
    cases hL : L[i]? with
    | none => rw [hL] at hq; cases hq
    | some o =>
      cases o with
      | none => rw [hL] at hq; cases hq
      | some v => rw [hL] at hq; cases hq; exact ⟨v, hL, rfl⟩
  · rintro ⟨v, h1, h2⟩
    refine List.mem_filterMap.mpr ⟨q.1, List.mem_range.mpr (List.getElem?_eq_some_iff.mp h1).1, ?_⟩
    rw [h1]
    show some (q.1, cvv ad v) = some q
    rw [← h2]
theorem lhas.lv {ad : Nat → Nat} {ls : Array Slot} {nL : Nat} {L : List (Option Value)} (h : lhas ad ls nL L) : lv_has ls nL (lof ad L) :=
  ⟨h.1, h.2.1, fun q hq => by obtain ⟨v, h1, h2⟩ := lof_mem.mp hq; rw [h2]; exact (h.2.2 _ v h1).2⟩
theorem lhas.at {ad : Nat → Nat} {ls : Array Slot} {nL : Nat} {L : List (Option Value)} (h : lhas ad ls nL L) {i : Nat} {v : Value} (hv : L[i]? = some (some v)) : ls[i]? = some (.val (cvv ad v)) := (h.2.2 i v hv).2
theorem lhas.put {ad : Nat → Nat} {ls ls' : Array Slot} {nL i : Nat} {L : List (Option Value)} {v : Value} (h : lhas ad ls nL L) (hc : v.category = 1) (h' : lv_has ls' nL ((i, cvv ad v) :: (lof ad L).filter (fun q => !(q.1 == i) && !(q.1 + 1 == i && q.2.category == 2)))) : lhas ad ls' nL (L.set i (some v)) := by
  refine ⟨h'.1, h'.2.1, fun j w hj => ?_⟩
  by_cases hi : j = i
  · subst hi
    have hl : j < L.length := by have := (List.getElem?_eq_some_iff.mp hj).1; rwa [List.length_set] at this
    rw [List.getElem?_set_self hl] at hj
    cases hj
    exact ⟨hc, h'.2.2 _ List.mem_cons_self⟩
  · rw [List.getElem?_set_ne (Ne.symm hi)] at hj
    have hw := (h.2.2 j w hj).1
    refine ⟨hw, h'.2.2 (j, cvv ad w) (List.mem_cons_of_mem _ (List.mem_filter.mpr ⟨lof_mem.mpr ⟨w, hj, rfl⟩, ?_⟩))⟩
    have e : (cvv ad w).category = 1 := by rw [cvv_cat, hw]
    simp [hi, e]
/-- fewer locals -/
theorem lhas.less {ad : Nat → Nat} {ls : Array Slot} {nL : Nat} {L L' : List (Option Value)} (h : lhas ad ls nL L) (hs : ∀ (i : Nat) (v : Value), L'[i]? = some (some v) → L[i]? = some (some v)) : lhas ad ls nL L' := ⟨h.1, h.2.1, fun i v hv => h.2.2 i v (hs i v hv)⟩
/-- what a walk stands on -/
def Cx (X : Option (Nat × (Nat → Int32))) (own : String) (cc : ByteArray) (nL : Nat) (rt : Option FieldType) (d : Nat) (p : Program) (R : Room) (s : State) (m : MethodId) (args : Array Value) (meth : Method) (c : Code) (D : va_G) (g : G3) (ad adV : Nat → Nat) (cells slots : Nat) : Prop :=
  p.tables.exec = Jvm.exec ∧ c.code = cc ∧ c.maxLocals = nL ∧ s.vm.findClass own = some m.cls ∧ (∀ w ∈ TT, w.before args s = true) ∧ meth.sig.returnType = rt ∧ STc D g ad adV s ∧ (d ≤ R.frames ∧ 64 * d ≤ R.locals ∧ cells ≤ R.cells ∧ slots ≤ R.slots) ∧ ∀ (N : Nat) (xs : Nat → Int32), X = some (N, xs) → va_X (ad 3000) N xs s s.heap ∧ ad 3000 < s.heap.size ∧ ¬ AD ad (ad 3000)
/-- an end: the value fits the method's kind of answer -/
def RD (cc : ByteArray) (rt : Option FieldType) (pc : Nat) : Option Int32 → Prop
  | none => decode cc pc = .ok (.return_, 1) ∧ rt = none
  | some v => decode cc pc = .ok (.ireturn, 1) ∧ ∃ ty, rt = some ty ∧ narrow ty (.int v) = .int v
def rst (r : Option Int32) : List Value := (r.map Value.int).toList
def AW (X : Option (Nat × (Nat → Int32))) (own : String) (cc : ByteArray) (nL : Nat) (rt : Option FieldType) (d : Nat) (Q : Option Int32 → Mem → Prop) (pc : Nat) (L : List (Option Value)) (st : List Value) (M : Mem) : Prop :=
  ∀ (p : Program) (l : Launch) (e : Env) (R : Room) (s : State) (m : MethodId) (args : Array Value) (below : List Frame) (meth : Method) (c : Code) (D : va_G) (g : G3) (ad adV : Nat → Nat) (cells slots : Nat) (Qs : State → Prop) (H : Heap) (locs : List Loc) (ls : Array Slot),
    Cx X own cc nL rt d p R s m args meth c D g ad adV cells slots →
    (∀ (r : Option Int32) (M' : Mem) (H' : Heap) (locs' : List Loc) (pc' : Nat) (ls' : Array Slot), Q r M' → RD cc rt pc' r → va_P D vwCl (wsD g ad M') H' → va_S (AD ad) s.heap H' locs' → W p l e R s m args below meth c H' locs' cells slots Qs (F0 m pc' ls' (rst r))) →
    va_P D vwCl (wsD g ad M) H → va_S (AD ad) s.heap H locs → lhas ad ls nL L → W p l e R s m args below meth c H locs cells slots Qs (F0 m pc ls (st.map (cvv ad)))
def QM (D : va_G) (g : G3) (ad : Nat → Nat) (Q : Option Int32 → Mem → Prop) : Array Value → State → Outcome → State → Prop := fun _ st oc t => (∃ (r : Option Int32) (M' : Mem), oc = .returned (r.map Value.int) ∧ Q r M' ∧ va_P D vwCl (wsD g ad M') t.heap) ∧ va_F (AD ad) st t
/-- a method's contract: from memory M with these arguments it returns, and Q says what and with which memory -/
def AM (d : Nat) (mi : MI) (av : List Value) (M : Mem) (Q : Option Int32 → Mem → Prop) : Prop :=
  ∀ (l : Launch) (D : va_G) (g : G3) (ad adV : Nat → Nat), Met l mi.1 (.code mi.1 mi.2.1 mi.2.2.1 mi.2.2.2 :: TT) (rmD d) (va_Pc (av.map (cvv ad)) (fun U => STc D g ad adV U ∧ va_P D vwCl (wsD g ad M) U.heap)) (QM D g ad Q) 0 0 (AD ad)
theorem lg_sl1 (vs : List Value) (h : ∀ v ∈ vs, v.category = 1) : lg_sl vs = vs.map Slot.val := by
  induction vs with
  | nil => rfl
  | cons v vs ih =>
    have e : lg_sl (v :: vs) = [Slot.val v] ++ lg_sl vs := by
      simp [lg_sl, h v List.mem_cons_self]
    rw [e, ih (fun w hw => h w (List.mem_cons_of_mem _ hw))]; rfl
theorem AM.of {d : Nat} {mi : MI} {av : List Value} {M : Mem} {Q : Option Int32 → Mem → Prop} (hy : plainName mi.1.cls = true) (hcat : ∀ v ∈ av, v.category = 1) (hlen : av.length ≤ mi.2.2.1) (h : AW none mi.1.cls mi.2.1 mi.2.2.1 mi.2.2.2 d Q 0 (av.map some ++ List.replicate (mi.2.2.1 - av.length) none) [] M) : AM d mi av M Q := by
  intro l D g ad adV
  refine Met.ofW (cc := mi.2.1) (maxL := mi.2.2.1) (ret := mi.2.2.2) hy rfl ?_
  intro p e s m args below meth c s₁ B hml hv
  obtain ⟨rfl, hST, hP⟩ := hv
  have hts0 := atoms_spec (ws := Cond.code mi.1 mi.2.1 mi.2.2.1 mi.2.2.2 :: TT) B.pre
  have hts : ∀ w ∈ TT, w.before (av.map (cvv ad)).toArray s = true := fun w hw => hts0 w (List.mem_cons_of_mem _ hw)
  have hown : s.vm.findClass mi.1.cls = some m.cls := findClass_of_methodNamed B.named
  have hlocks := B.notSynchronized
  have hr := B.returns
  have hc1 : ∀ v ∈ av.map (cvv ad), v.category = 1 := fun v hv => by
    obtain ⟨w, h1, rfl⟩ := List.mem_map.mp hv
    rw [cvv_cat]; exact hcat w h1
  have hsl := lg_sl1 _ hc1
  have hl := lv_entry (av.map (cvv ad)) (n := mi.2.2.1) (by rw [hsl, List.length_map, List.length_map]; exact hlen)
  rw [lg_entry_eq]
  have hh : lhas ad ((lg_sl (av.map (cvv ad)) ++ List.replicate (mi.2.2.1 - (lg_sl (av.map (cvv ad))).length) Slot.unset).toArray) mi.2.2.1 (av.map some ++ List.replicate (mi.2.2.1 - av.length) none) := by
    refine ⟨hl.1, hl.2.1, fun i v hv => ?_⟩
    by_cases hi : i < av.length
    · rw [List.getElem?_append_left (by rw [List.length_map]; exact hi), List.getElem?_map] at hv
      rw [List.getElem?_toArray, hsl, List.getElem?_append_left (by rw [List.length_map, List.length_map]; exact hi), List.getElem?_map, List.getElem?_map]
      cases ha : av[i]? with
      | none => rw [ha] at hv; cases hv
      | some w =>
        rw [ha] at hv
        cases hv
        exact ⟨hcat _ (List.mem_of_getElem? ha), rfl⟩
    · rw [List.getElem?_append_right (by rw [List.length_map]; omega)] at hv
      rw [List.getElem?_replicate] at hv
      split at hv <;> cases hv
  generalize ((lg_sl (av.map (cvv ad)) ++ List.replicate (mi.2.2.1 - (lg_sl (av.map (cvv ad))).length) Slot.unset).toArray) = ls at hh ⊢
  refine h p l e _ s m _ below meth c D g ad adV 0 0 _ s.heap [] ls ⟨B.exec, B.bytes, hml, hown, hts, hr, hST, ⟨Nat.le_refl _, Nat.le_refl _, Nat.le_refl _, Nat.le_refl _⟩, fun N xs h => by cases h⟩ ?_ hP va_S.rf hh
  intro r M' H' locs' pc' ls' hQ hRD hP' hS'
  cases r with
  | none =>
    obtain ⟨hd, hrt⟩ := hRD
    exact W.vret B.exec B.bytes (hr.trans hrt) (fun t ht hW => ⟨⟨none, M', rfl, hQ, by rw [ht]; exact hP'⟩, hS'.F ht⟩) hS'.2.2 hd
  | some v =>
    obtain ⟨hd, ty, hrt, hn⟩ := hRD
    exact W.zret B.exec B.bytes (hr.trans hrt) hn (fun t ht hW => ⟨⟨some v, M', rfl, hQ, by rw [ht]; exact hP'⟩, hS'.F ht⟩) hS'.2.2 hd
theorem AM.mono {d : Nat} {mi : MI} {av : List Value} {M : Mem} {Q Q' : Option Int32 → Mem → Prop} (h : AM d mi av M Q) (hq : ∀ r M', Q r M' → Q' r M') : AM d mi av M Q' := by
  intro l D g ad adV p e ha hc hk s m args below hf
  intro h1 h2 h3
  obtain ⟨t, o, a1, a2, a3, ⟨⟨⟨r, M', b1, b2, b3⟩, b4⟩, b5⟩⟩ := h l D g ad adV p e ha hc hk s m args below hf h1 h2 h3
  exact ⟨t, o, a1, a2, a3, ⟨⟨⟨r, M', b1, hq r M' b2, b3⟩, b4⟩, b5⟩⟩
