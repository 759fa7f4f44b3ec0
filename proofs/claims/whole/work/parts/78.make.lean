/-! making the objects: a walk over a world that grows; its cells lie one behind the other from base on -/
abbrev PCl : Type := (Nat × List Value) ⊕ ((Bool × Nat) ⊕ List (Option Nat))
def bA (base : Nat) : Nat → Nat := fun k => base + k
def entP (g : G3) (base : Nat) : PCl → va_E
  | .inl q => .inr (q.1, q.2.map (cvv (bA base)))
  | .inr (.inl q) => .inl (if q.1 then g.2.1 else g.1, q.2, .inl (fun _ => 0))
  | .inr (.inr rs) => .inl (g.2.2, rs.length, .inr (.inr (.inr (.inr (fun i => (rs.getD i none).map (bA base))))))
def wsP (g : G3) (base : Nat) (cs : List PCl) : va_W := cs.mapIdx (fun k c => (base + k, entP g base c))
section WP
variable {g : G3} {base k : Nat} {cs : List PCl} {c : PCl}
theorem wsP_len : (wsP g base cs).length = cs.length := by rw [wsP, List.length_mapIdx]
theorem wsP_at (h : cs[k]? = some c) : (wsP g base cs)[k]? = some (base + k, entP g base c) := by rw [wsP, List.getElem?_mapIdx, h]; rfl
theorem wsP_some {q : Nat × va_E} (h : (wsP g base cs)[k]? = some q) : k < cs.length ∧ q.1 = base + k := by
  have hl := (List.getElem?_eq_some_iff.mp h).1
  rw [wsP_len] at hl
  rw [wsP, List.getElem?_mapIdx, List.getElem?_eq_getElem hl] at h
  cases h
  exact ⟨hl, rfl⟩
theorem wsP_app : wsP g base (cs ++ [c]) = wsP g base cs ++ [(base + cs.length, entP g base c)] := by rw [wsP, List.mapIdx_concat]; rfl
theorem wsP_set : (wsP g base cs).set k (base + k, entP g base c) = wsP g base (cs.set k c) := by
  apply List.ext_getElem?
  intro i
  rw [wsP, wsP, List.getElem?_mapIdx]
  by_cases e : i = k
  · subst e
    by_cases hl : i < cs.length
    · rw [List.getElem?_set_self (by rw [List.length_mapIdx]; exact hl), List.getElem?_set_self hl]; rfl
    · rw [List.getElem?_eq_none (by rw [List.length_set, List.length_mapIdx]; omega), List.getElem?_eq_none (by rw [List.length_set]; omega)]; rfl
  · rw [List.getElem?_set_ne (Ne.symm e), List.getElem?_set_ne (Ne.symm e), List.getElem?_mapIdx]
theorem wsP_D : va_D (fun q => base ≤ q) (wsP g base cs) := by
  refine ⟨fun i j p q hi hj e => ?_, fun k q hk => ?_⟩
  · have h1 := (wsP_some hi).2
    have h2 := (wsP_some hj).2
    omega
  · have := (wsP_some hk).2
    show base ≤ q.1
    omega
end WP
def nestI : List (String × Nat × MethodName × String) := [(RX9, 11, yX8_init, "TallerWitness"), (RX9, 24, yX7_init, "TallerWitness"), (RX9, 35, yX2_init, "TallerWitness"), (RX6, 26, yX4_init, "TallerWitness"), (RX8, 42, yX4_init, "TallerWitness")]
def lettB : List Int32 := [97, 105, 121, 104, 107, 113, 98, 106, 122, 108, 116, 114]
/-- the letters' text -/
def SLx (base aS aV : Nat) (U : State) : Prop := vk_S 1 [12] [lettB] (fun _ => aS) (fun _ => aV) (fun q => base ≤ q) U U.heap ∧ va_Z "java/lang/String" "COMPACT_STRINGS" "Z" (.int 1) (fun q => base ≤ q) U U.heap
theorem SLx.go {base aS aV : Nat} {s U : State} {H : Heap} {locs : List Loc} (h : SLx base aS aV s) (hS : va_S (fun q => base ≤ q) s.heap H locs) (hU : U.heap = H) (hW : s.WarmedH U.vm) : SLx base aS aV U :=
  ⟨(vk_S.moved hW.alike h.1).kept (fun a ha hA => by rw [hU]; exact hS.2.1 a ha hA), (va_Z.moved hW.alike h.2).kept (fun a ha hA => by rw [hU]; exact hS.2.1 a ha hA)⟩
theorem SLx.call {base aS aV : Nat} {U : State} (h : SLx base aS aV U) (f : JFrame) (mk : MethodId) (a : Array Value) : SLx base aS aV (U.calling f mk a) :=
  ⟨vk_S.moved (u := U) (U := U.calling f mk a) (Vm.Alike.refl U.vm) h.1, va_Z.moved (u := U) (U := U.calling f mk a) (Vm.Alike.refl U.vm) h.2⟩
def CST (D : va_G) (g : G3) (base aS aV : Nat) (U : State) : Prop := va_K D vwCl (tyD g) U ∧ (∀ q ∈ nestI, va_Nw (.methodLinkNest q.1 q.2.1 q.2.2.1 q.2.2.2) U) ∧ va_AO RX2 U ∧ vk_R RX4 9 "aiyhkqbjzltr" aS U ∧ SLx base aS aV U
theorem CST.go {D : va_G} {g : G3} {base aS aV : Nat} {s U : State} {H : Heap} {locs : List Loc} (h : CST D g base aS aV s) (hS : va_S (fun q => base ≤ q) s.heap H locs) (hU : U.heap = H) (hW : s.WarmedH U.vm) : CST D g base aS aV U :=
  ⟨va_K.moved hW.alike h.1, fun q hq => va_Nw.warmM hW (h.2.1 q hq), va_AO.moved hW.alike h.2.2.1, vk_R.warm hW h.2.2.2.1, h.2.2.2.2.go hS hU hW⟩
theorem CST.call {D : va_G} {g : G3} {base aS aV : Nat} {U : State} (h : CST D g base aS aV U) (f : JFrame) (mk : MethodId) (a : Array Value) : CST D g base aS aV (U.calling f mk a) :=
  ⟨va_K.moved (u := U) (U := U.calling f mk a) (Vm.Alike.refl U.vm) h.1, fun q hq => va_Nw.same rfl rfl (h.2.1 q hq), va_AO.moved (u := U) (U := U.calling f mk a) (Vm.Alike.refl U.vm) h.2.2.1, vk_R.same rfl h.2.2.2.1, h.2.2.2.2.call f mk a⟩
/-! String.length of the letters' text -/
def QHp (v : Int32) : Array Value → State → Outcome → State → Prop := fun _ st oc t => oc = .returned (some (.int v)) ∧ t.heap = st.heap
theorem c_coderM (l : Launch) (base aS aV : Nat) : Met l iJ0_coder_7d493.1 (.code iJ0_coder_7d493.1 iJ0_coder_7d493.2.1 iJ0_coder_7d493.2.2.1 iJ0_coder_7d493.2.2.2 :: TT) (rmD 0) (va_Pc [.ref aS] (SLx base aS aV)) (QHp 0) 0 0 (fun _ => False) := by
  refine Met.ofW (cc := cJ0_coder_7d493) (maxL := 1) (ret := some .byte) (by decide) rfl ?_
  intro p e s m args below meth c s₁ B hml hv
  obtain ⟨rfl, h5, h6⟩ := hv
  have hts0 := atoms_spec (ws := Cond.code iJ0_coder_7d493.1 iJ0_coder_7d493.2.1 iJ0_coder_7d493.2.2.1 iJ0_coder_7d493.2.2.2 :: TT) B.pre
  have hts : ∀ w ∈ TT, w.before ([.ref aS] : List Value).toArray s = true := fun w hw => hts0 w (List.mem_cons_of_mem _ hw)
  have hown : s.vm.findClass RJ0 = some m.cls := findClass_of_methodNamed B.named
  have hlocks := B.notSynchronized
  have hl := lv_entry ([.ref aS]) (n := 1) (Nat.le_of_ble_eq_true rfl)
  rw [lg_entry_eq]
  generalize (lg_sl ([.ref aS]) ++ List.replicate (1 - (lg_sl ([.ref aS])).length) Slot.unset).toArray = ls at hl ⊢
  have hl : lv_has ls 1 [(0, .ref aS)] := hl
  have hS : va_S (fun q => base ≤ q) s.heap s.heap [] := va_S.rf
  refine va_gets B.exec B.bytes h6 hS hown (hts _ sf_38) (fun _ h => h) dJ0_coder_7d493_0 ?_
  refine lv_if_eq (tgt := 13) B.exec B.bytes dJ0_coder_7d493_3 (by decide) (fun z => absurd z (by decide)) (fun _ => ?_)
  refine lv_aload_n B.exec B.bytes dJ0_coder_7d493_6 rfl (lv_at hl 0 rfl) ?_
  refine vk_getf B.exec B.bytes (h5.1 0 (by decide)).2.1 hS hown (hts _ sf_15) (fun _ h => h) dJ0_coder_7d493_7 ?_
  refine lv_goto (tgt := 14) B.exec B.bytes dJ0_coder_7d493_10 (by decide) ?_
  exact W.zret B.exec B.bytes B.returns rfl (fun t ht hW => ⟨rfl, ht⟩) (fun q hq => by cases hq) dJ0_coder_7d493_14
theorem c_lenM (l : Launch) (base aS aV : Nat) : Met l iJ0_length_8abf5.1 (.code iJ0_length_8abf5.1 iJ0_length_8abf5.2.1 iJ0_length_8abf5.2.2.1 iJ0_length_8abf5.2.2.2 :: TT) (rmD 1) (va_Pc [.ref aS] (SLx base aS aV)) (QHp 12) 0 0 (fun _ => False) := by
  refine Met.ofW (cc := cJ0_length_8abf5) (maxL := 1) (ret := some .int) (by decide) rfl ?_
  intro p e s m args below meth c s₁ B hml hv
  obtain ⟨rfl, h5, h6⟩ := hv
  have hts0 := atoms_spec (ws := Cond.code iJ0_length_8abf5.1 iJ0_length_8abf5.2.1 iJ0_length_8abf5.2.2.1 iJ0_length_8abf5.2.2.2 :: TT) B.pre
  have hts : ∀ w ∈ TT, w.before ([.ref aS] : List Value).toArray s = true := fun w hw => hts0 w (List.mem_cons_of_mem _ hw)
  have hown : s.vm.findClass RJ0 = some m.cls := findClass_of_methodNamed B.named
  have hlocks := B.notSynchronized
  have hl := lv_entry ([.ref aS]) (n := 1) (Nat.le_of_ble_eq_true rfl)
  rw [lg_entry_eq]
  generalize (lg_sl ([.ref aS]) ++ List.replicate (1 - (lg_sl ([.ref aS])).length) Slot.unset).toArray = ls at hl ⊢
  have hl : lv_has ls 1 [(0, .ref aS)] := hl
  have hS : va_S (fun q => base ≤ q) s.heap s.heap [] := va_S.rf
  refine lv_aload_n B.exec B.bytes dJ0_length_8abf5_0 rfl (lv_at hl 0 rfl) ?_
  refine vk_getf B.exec B.bytes (h5.1 0 (by decide)).2.2.1 hS hown (hts _ sf_9) (fun _ h => h) dJ0_length_8abf5_1 ?_
  obtain ⟨cell, t1, t2, t3, t4, t5, t6, t7⟩ := (h5.1 0 (by decide)).2.2.2
  refine W.alen (n := nI 12) B.exec B.bytes t1 t2 t5 rfl rfl dJ0_length_8abf5_4 ?_
  refine lv_aload_n (rest := [.int (nI 12)]) B.exec B.bytes dJ0_length_8abf5_5 rfl (lv_at hl 0 rfl) ?_
  obtain ⟨⟨i1, i2, ⟨i3, i4, i5⟩, i6, i7⟩, i8⟩ := kJ0_coder_7d493
  have hrun := va_runV (p := p) (l := l) (e := e) (R := rmD 1) (s := s) (m := m) (args := ([.ref aS] : List Value).toArray) (below := below) (meth := meth) (c := c) (H := s.heap) (locs := []) (cells := 0) (slots := 0) (g := F0 m 6 ls [.ref aS, .int (nI 12)]) (As := []) (rest := [.int (nI 12)]) (n := 0) (own := RJ0) (index := 335) (y := iJ0_coder_7d493.1) (C := iJ0_coder_7d493.1.cls) (b := aS) (bytes := iJ0_coder_7d493.2.1) (maxL := iJ0_coder_7d493.2.2.1) (ret := iJ0_coder_7d493.2.2.2) ⟨B.exec, B.bytes, hml, hown, hts⟩ (c_coderM l base aS aV) ⟨⟨rfl, rfl, Nat.le_refl _, by decide, tt_ws hts i2, List.mem_cons_self, hts _ i2, hts _ i1, ⟨i3, i4⟩, (fun sig h => by rw [h] at i5; exact (Option.some.inj i5).symm), hts _ ml_J0_335⟩, hts _ i8.1, hts _ i8.2⟩ ⟨fun a U f mk q => ⟨q.1, q.2.call f mk a⟩, vk_recv (i := 0) (adK := fun _ => aS) h5 (by decide) hS, fun U hU hW => ⟨rfl, SLx.go ⟨h5, h6⟩ hS hU hW⟩⟩ rfl rfl hl.1 rfl (lv_room (by decide)) dJ0_length_8abf5_6 ⟨Nat.le_refl _, Nat.le_refl _⟩
  intro T hT X
  obtain ⟨v, st₀, t, T', L, g0, X', hL, e1, e2, ⟨hv, hq⟩, st⟩ := hrun T hT X
  cases hv
  have hl0 : L = [] := by
    rcases L with _ | ⟨q, L⟩
    · rfl
    · exact (hL q List.mem_cons_self).elim
  subst hl0
  have hH : T'.heap = s.heap := by rw [e1, hq, g0]
  have K : W p l e (rmD 1) s m ([.ref aS] : List Value).toArray below meth c s.heap [] 0 0 (MQ below (QHp 12) ([.ref aS] : List Value).toArray s 0 0 (fun _ => False)) (F0 m 9 ls [.int 0, .int (nI 12)]) := by
    refine lv_ishr B.exec B.bytes dJ0_length_8abf5_9 ?_
    exact W.zret B.exec B.bytes B.returns rfl (fun t ht hW => ⟨rfl, ht⟩) (fun q hq => by cases hq) dJ0_length_8abf5_10
  obtain ⟨t2, a1, b1⟩ := K T' hH X'
  exact ⟨t2, st t2 a1, b1⟩
