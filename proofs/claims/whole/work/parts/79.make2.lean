/-! the walk of a constructor -/
def CwX (own : String) (cc : ByteArray) (nL d C1 S1 : Nat) (p : Program) (R : Room) (s : State) (m : MethodId) (args : Array Value) (meth : Method) (c : Code) (D : va_G) (g : G3) (base aS aV : Nat) : Prop :=
  p.tables.exec = Jvm.exec ∧ c.code = cc ∧ c.maxLocals = nL ∧ s.vm.findClass own = some m.cls ∧ (∀ w ∈ TT, w.before args s = true) ∧ meth.name = "<init>" ∧ CST D g base aS aV s ∧ (d ≤ R.frames ∧ 64 * d ≤ R.locals ∧ C1 ≤ R.cells ∧ S1 ≤ R.slots) ∧ base ≤ s.heap.size
def CW (own : String) (cc : ByteArray) (nL d C1 S1 : Nat) (cs1 : List PCl) (C S pc : Nat) (L : List (Option Value)) (st : List Value) (cs : List PCl) : Prop :=
  ∀ (p : Program) (l : Launch) (e : Env) (R : Room) (s : State) (m : MethodId) (args : Array Value) (below : List Frame) (meth : Method) (c : Code) (D : va_G) (g : G3) (base aS aV : Nat) (Qs : State → Prop) (H : Heap) (locs : List Loc) (ls : Array Slot),
    CwX own cc nL d C1 S1 p R s m args meth c D g base aS aV →
    (∀ (H' : Heap) (locs' : List Loc) (pc' : Nat) (ls' : Array Slot), decode cc pc' = .ok (.return_, 1) → va_P D vwCl (wsP g base cs1) H' → H'.size = base + cs1.length → va_S (fun q => base ≤ q) s.heap H' locs' → W p l e R s m args below meth c H' locs' C1 S1 Qs (F0 m pc' ls' [])) →
    va_P D vwCl (wsP g base cs) H → H.size = base + cs.length → va_S (fun q => base ≤ q) s.heap H locs → lhas (bA base) ls nL L → W p l e R s m args below meth c H locs C S Qs (F0 m pc ls (st.map (cvv (bA base))))
def QIn (D : va_G) (g : G3) (base : Nat) (cs1 : List PCl) : Array Value → State → Outcome → State → Prop := fun _ st oc t => (oc = .returned none ∧ va_P D vwCl (wsP g base cs1) t.heap ∧ t.heap.size = base + cs1.length) ∧ va_F (fun q => base ≤ q) st t
def rmI (d C1 S1 : Nat) : Room := { frames := d, cells := C1, slots := S1, locals := 64 * d }
/-- a constructor's contract: from the cells cs it returns, with the cells cs1 -/
def CMt (d : Nat) (mi : MI) (av : List Value) (cs : List PCl) (C1 S1 : Nat) (cs1 : List PCl) : Prop :=
  ∀ (l : Launch) (D : va_G) (g : G3) (base aS aV : Nat), Met l mi.1 (.code mi.1 mi.2.1 mi.2.2.1 mi.2.2.2 :: TT) (rmI d C1 S1) (va_Pc (av.map (cvv (bA base))) (fun U => CST D g base aS aV U ∧ va_P D vwCl (wsP g base cs) U.heap ∧ U.heap.size = base + cs.length)) (QIn D g base cs1) C1 S1 (fun q => base ≤ q)
/-- a constructor's words -/
def MIk (mi : MI) (n : Nat) : Prop := MDk mi n ∧ Cond.instanceMethod mi.1 ∈ TT
theorem CMt.of {d : Nat} {mi : MI} {av : List Value} {cs : List PCl} {C1 S1 : Nat} {cs1 : List PCl} (hy : plainName mi.1.cls = true) (hnm : mi.1.name = "<init>") (hrt : mi.2.2.2 = none) (hcat : av.all (fun v => v.category == 1) = true) (hlen : Nat.ble av.length mi.2.2.1 = true) (h : CW mi.1.cls mi.2.1 mi.2.2.1 d C1 S1 cs1 0 0 0 (av.map some ++ List.replicate (mi.2.2.1 - av.length) none) [] cs) : CMt d mi av cs C1 S1 cs1 := by
  intro l D g base aS aV
  refine Met.ofW (cc := mi.2.1) (maxL := mi.2.2.1) (ret := mi.2.2.2) hy rfl ?_
  intro p e s m args below meth c s₁ B hml hv
  obtain ⟨rfl, hST, hP, hz⟩ := hv
  have hcat : ∀ v ∈ av, v.category = 1 := fun v hv => by have := List.all_eq_true.mp hcat v hv; simpa using this
  have hlen := Nat.le_of_ble_eq_true hlen
  have hts0 := atoms_spec (ws := Cond.code mi.1 mi.2.1 mi.2.2.1 mi.2.2.2 :: TT) B.pre
  have hts : ∀ w ∈ TT, w.before (av.map (cvv (bA base))).toArray s = true := fun w hw => hts0 w (List.mem_cons_of_mem _ hw)
  have hown : s.vm.findClass mi.1.cls = some m.cls := findClass_of_methodNamed B.named
  have hlocks := B.notSynchronized
  have hr := B.returns
  have hin : meth.name = "<init>" := (name_of_methodNamed B.named B.method).1.trans hnm
  have hc1 : ∀ v ∈ av.map (cvv (bA base)), v.category = 1 := fun v hv => by
    obtain ⟨w, h1, rfl⟩ := List.mem_map.mp hv
    rw [cvv_cat]; exact hcat w h1
  have hsl := lg_sl1 _ hc1
  have hl := lv_entry (av.map (cvv (bA base))) (n := mi.2.2.1) (by rw [hsl, List.length_map, List.length_map]; exact hlen)
  rw [lg_entry_eq]
  have hh : lhas (bA base) ((lg_sl (av.map (cvv (bA base))) ++ List.replicate (mi.2.2.1 - (lg_sl (av.map (cvv (bA base)))).length) Slot.unset).toArray) mi.2.2.1 (av.map some ++ List.replicate (mi.2.2.1 - av.length) none) := by
    refine ⟨hl.1, hl.2.1, fun i v hv => ?_⟩
    by_cases hi : i < av.length
    · rw [List.getElem?_append_left (by rw [List.length_map]; exact hi), List.getElem?_map] at hv
      rw [List.getElem?_toArray, hsl, List.getElem?_append_left (by rw [List.length_map, List.length_map]; exact hi), List.getElem?_map, List.getElem?_map]
      cases ha : av[i]? with
      | none => rw [ha] at hv; cases hv
      | some w =>
        rw [ha] at hv
        cases hv
        exact ⟨hcat _ (List.mem_of_getElem? ha), rfl⟩
    · rw [List.getElem?_append_right (by rw [List.length_map]; omega)] at hv
      rw [List.getElem?_replicate] at hv
      split at hv <;> cases hv
  generalize ((lg_sl (av.map (cvv (bA base))) ++ List.replicate (mi.2.2.1 - (lg_sl (av.map (cvv (bA base)))).length) Slot.unset).toArray) = ls at hh ⊢
  refine h p l e _ s m _ below meth c D g base aS aV _ s.heap [] ls ⟨B.exec, B.bytes, hml, hown, hts, hin, hST, ⟨Nat.le_refl _, Nat.le_refl _, Nat.le_refl _, Nat.le_refl _⟩, by omega⟩ ?_ hP hz va_S.rf hh
  intro H' locs' pc' ls' hd hP' hz' hS'
  exact W.vret B.exec B.bytes (hr.trans hrt) (fun t ht hW => ⟨⟨rfl, by rw [ht]; exact hP', by rw [ht]; exact hz'⟩, hS'.F ht⟩) hS'.2.2 hd
section CWR
variable {own : String} {cc : ByteArray} {nL d C1 S1 : Nat} {cs1 : List PCl} {C S pc : Nat} {L : List (Option Value)} {st : List Value} {cs : List PCl}
theorem cw_aload_n {k0 : Fin 4} {i x : Nat} (hd : decode cc pc = .ok (.aload_n k0, 1)) (hi : (k0 : Nat) = i) (hv : L[i]? = some (some (.ref x))) (k : CW own cc nL d C1 S1 cs1 C S (pc + 1) L (.ref x :: st) cs) : CW own cc nL d C1 S1 cs1 C S pc L st cs := by
  intro p l e R s m args below meth c D g base aS aV Qs H locs ls X hret hP hz hS hl
  exact lv_aload_n X.1 X.2.1 hd hi (hl.at hv) (k p l e R s m args below meth c D g base aS aV Qs H locs ls X hret hP hz hS hl)
theorem cw_iload_n {k0 : Fin 4} {i : Nat} {x : Int32} (hd : decode cc pc = .ok (.iload_n k0, 1)) (hi : (k0 : Nat) = i) (hv : L[i]? = some (some (.int x))) (k : CW own cc nL d C1 S1 cs1 C S (pc + 1) L (.int x :: st) cs) : CW own cc nL d C1 S1 cs1 C S pc L st cs := by
  intro p l e R s m args below meth c D g base aS aV Qs H locs ls X hret hP hz hS hl
  exact lv_iload_n X.1 X.2.1 hd hi (hl.at hv) (k p l e R s m args below meth c D g base aS aV Qs H locs ls X hret hP hz hS hl)
theorem cw_iconst {n : Int} {v : Int32} (hd : decode cc pc = .ok (.iconst n, 1)) (hv : Int32.ofInt n = v) (k : CW own cc nL d C1 S1 cs1 C S (pc + 1) L (.int v :: st) cs) : CW own cc nL d C1 S1 cs1 C S pc L st cs := by
  intro p l e R s m args below meth c D g base aS aV Qs H locs ls X hret hP hz hS hl
  exact lv_iconst X.1 X.2.1 hd hv (k p l e R s m args below meth c D g base aS aV Qs H locs ls X hret hP hz hS hl)
theorem cw_bipush {n : Int} {v : Int32} (hd : decode cc pc = .ok (.bipush n, 2)) (hv : (Int8.ofInt n).toInt32 = v) (k : CW own cc nL d C1 S1 cs1 C S (pc + 2) L (.int v :: st) cs) : CW own cc nL d C1 S1 cs1 C S pc L st cs := by
  intro p l e R s m args below meth c D g base aS aV Qs H locs ls X hret hP hz hS hl
  exact lv_bipush X.1 X.2.1 hd hv (k p l e R s m args below meth c D g base aS aV Qs H locs ls X hret hP hz hS hl)
theorem cw_sipush {n : Int} {v : Int32} (hd : decode cc pc = .ok (.sipush n, 3)) (hv : (Int16.ofInt n).toInt32 = v) (k : CW own cc nL d C1 S1 cs1 C S (pc + 3) L (.int v :: st) cs) : CW own cc nL d C1 S1 cs1 C S pc L st cs := by
  intro p l e R s m args below meth c D g base aS aV Qs H locs ls X hret hP hz hS hl
  exact lv_sipush X.1 X.2.1 hd hv (k p l e R s m args below meth c D g base aS aV Qs H locs ls X hret hP hz hS hl)
theorem cw_dup {v : Value} (hd : decode cc pc = .ok (.dup, 1)) (hv : v.category = 1) (k : CW own cc nL d C1 S1 cs1 C S (pc + 1) L (v :: v :: st) cs) : CW own cc nL d C1 S1 cs1 C S pc L (v :: st) cs := by
  intro p l e R s m args below meth c D g base aS aV Qs H locs ls X hret hP hz hS hl
  exact lv_dup X.1 X.2.1 hd (by rw [cvv_cat]; exact hv) (k p l e R s m args below meth c D g base aS aV Qs H locs ls X hret hP hz hS hl)
theorem cw_istore_n {k0 : Fin 4} {i : Nat} {x : Int32} (hd : decode cc pc = .ok (.istore_n k0, 1)) (hi : (k0 : Nat) = i) (hn : i < nL) {L2 : List (Option Value)} (hL : L.set i (some (.int x)) = L2) (k : CW own cc nL d C1 S1 cs1 C S (pc + 1) L2 st cs) : CW own cc nL d C1 S1 cs1 C S pc L ((.int x) :: st) cs := by
  subst hL
  intro p l e R s m args below meth c D g base aS aV Qs H locs ls X hret hP hz hS hl
  exact lv_istore_n X.1 X.2.1 hd hi hl.lv hn rfl (fun ls2 h2 => (k p l e R s m args below meth c D g base aS aV Qs H locs ls2 X hret hP hz hS (hl.put (v := (.int x)) rfl h2)))
theorem cw_iinc {i : Nat} {n : Int} {x : Int32} (hd : decode cc pc = .ok (.iinc i n, 3)) (hv : L[i]? = some (some (.int x))) {y : Int32} (hy : Int32.ofInt n = y) (hn : i < nL) {L2 : List (Option Value)} (hL : L.set i (some (.int (x + y))) = L2) (k : CW own cc nL d C1 S1 cs1 C S (pc + 3) L2 st cs) : CW own cc nL d C1 S1 cs1 C S pc L st cs := by
  subst hL; subst hy
  intro p l e R s m args below meth c D g base aS aV Qs H locs ls X hret hP hz hS hl
  have hm : (i, Value.int x) ∈ lof (bA base) L := lof_mem.mpr ⟨.int x, hv, rfl⟩
  obtain ⟨k0, hk0⟩ := List.getElem?_of_mem hm
  exact lv_iinc X.1 X.2.1 hd hl.lv hk0 rfl hn rfl (fun ls2 h2 => (k p l e R s m args below meth c D g base aS aV Qs H locs ls2 X hret hP hz hS (hl.put (v := .int (x + Int32.ofInt n)) rfl h2)))
theorem cw_goto {off : Int} {tgt : Nat} (hd : decode cc pc = .ok (.goto off, 3)) (ht : (pc : Int) + off = (tgt : Int)) (k : CW own cc nL d C1 S1 cs1 C S tgt L st cs) : CW own cc nL d C1 S1 cs1 C S pc L st cs := by
  intro p l e R s m args below meth c D g base aS aV Qs H locs ls X hret hP hz hS hl
  exact lv_goto X.1 X.2.1 hd ht (k p l e R s m args below meth c D g base aS aV Qs H locs ls X hret hP hz hS hl)
theorem cw_icmp_ge {x y : Int32} {off : Int} {tgt : Nat} (hd : decode cc pc = .ok (.if_icmp .ge off, 3)) (ht : (pc : Int) + off = (tgt : Int)) (kt : y ≤ x → CW own cc nL d C1 S1 cs1 C S tgt L st cs) (kf : ¬ y ≤ x → CW own cc nL d C1 S1 cs1 C S (pc + 3) L st cs) : CW own cc nL d C1 S1 cs1 C S pc L (.int y :: .int x :: st) cs := by
  intro p l e R s m args below meth c D g base aS aV Qs H locs ls X hret hP hz hS hl
  exact lv_icmp_ge X.1 X.2.1 hd ht (fun z => (kt z p l e R s m args below meth c D g base aS aV Qs H locs ls X hret hP hz hS hl)) (fun z => (kf z p l e R s m args below meth c D g base aS aV Qs H locs ls X hret hP hz hS hl))
theorem cw_ret (hd : decode cc pc = .ok (.return_, 1)) (hC : C = C1) (hS1 : S = S1) (hcs : cs = cs1) : CW own cc nL d C1 S1 cs1 C S pc L [] cs := by
  subst hC; subst hS1; subst hcs
  intro p l e R s m args below meth c D g base aS aV Qs H locs ls X hret hP hz hS hl
  exact hret H locs pc ls hd hP hz hS
theorem cw_objInit {idx k0 : Nat} (hd : decode cc pc = .ok (.invokespecial idx, 3)) (hw : Cond.methodLink own idx Lib.objectInit ∈ TT) (hw2 : Cond.instanceMethod Lib.objectInit ∈ TT) (hw3 : Cond.code Lib.objectInit ⟨#[0xb1]⟩ 1 none ∈ TT) (hd1 : 1 ≤ d) (hst : (st.map fun v => v.category).sum ≤ 8) (k : CW own cc nL d C1 S1 cs1 C S (pc + 3) L st cs) : CW own cc nL d C1 S1 cs1 C S pc L (.ref k0 :: st) cs := by
  intro p l e R s m args below meth c D g base aS aV Qs H locs ls X hret hP hz hS hl
  obtain ⟨r1, r2, r3, r4⟩ := X.2.2.2.2.2.2.2.1
  exact W.objInit X.1 X.2.1 X.2.2.2.1 (X.2.2.2.2.1 _ hw) (X.2.2.2.2.1 _ hw2) (X.2.2.2.2.1 _ hw3) rfl (hl.1.trans X.2.2.1.symm) rfl hd (by omega) (by show 2 * 0 + _ + 12 ≤ R.locals; rw [cat_sum]; omega) (k p l e R s m args below meth c D g base aS aV Qs H locs ls X hret hP hz hS hl)
theorem cw_newa {at1 : ArrayType} {b : Bool} {n : Int32} {N : Nat} (hd : decode cc pc = .ok (.newarray at1, 2)) (hw : Cond.arrayClass (newarray.typeOf at1) ∈ TT) (hb : (at1 = .int ∧ b = false) ∨ (at1 = .byte ∧ b = true)) (hn : ¬ n < 0) (hN : n.toNatClampNeg = N) (hN2 : N ≤ 100000) (hC : C + 1 ≤ C1) (hSl : S + N ≤ S1) (k : CW own cc nL d C1 S1 cs1 (C + 1) (S + N) (pc + 2) L (.ref cs.length :: st) (cs ++ [.inr (.inl (b, N))])) : CW own cc nL d C1 S1 cs1 C S pc L (.int n :: st) cs := by
  intro p l e R s m args below meth c D g base aS aV Qs H locs ls X hret hP hz hS hl
  obtain ⟨r1, r2, r3, r4⟩ := X.2.2.2.2.2.2.2.1
  have hKt := X.2.2.2.2.2.2.1.1.2
  have hby : N * componentBytes (newarray.typeOf at1) ≤ 536870912 := by
    rcases hb with ⟨rfl, -⟩ | ⟨rfl, -⟩
    · show N * 4 ≤ _; omega
    · show N * 1 ≤ _; omega
  refine va_newaK X.1 X.2.1 (X.2.2.2.2.1 _ hw) rfl hd rfl hn hN hby (by omega) (by omega) hz (fun H1 cA e1 z1 o1 hAr hNm => ?_)
  have hcA : cA = (if b then g.2.1 else g.1) := by
    rcases hb with ⟨rfl, rfl⟩ | ⟨rfl, rfl⟩
    · have := (hKt 0 (g.1, .int) rfl).2
      exact Option.some.inj (hNm.symm.trans this)
    · have := (hKt 1 (g.2.1, .byte) rfl).2
      exact Option.some.inj (hNm.symm.trans this)
  have hk : ∀ (k : Nat) (x : Nat × va_E), (wsP g base cs)[k]? = some x → H1[x.1]? = H[x.1]? := fun k x hx => o1 x.1 (by rw [← hz]; exact (hP k x hx).lt)
  refine k p l e R s m args below meth c D g base aS aV Qs H1 locs ls X hret ?_ (by rw [z1, List.length_append]; rfl) ⟨by have := hS.1; omega, fun x h1 h2 => (o1 x (by have := hS.1; omega)).trans (hS.2.1 x h1 h2), hS.2.2⟩ hl
  rw [wsP_app]
  refine (hP.kept hk).app (fun k x hx => ?_)
  have hz : k < 1 := (List.getElem?_eq_some_iff.mp hx).1
  rw [show k = 0 by omega] at hx
  cases hx
  show H1[base + cs.length]? = some (vp_cell (if b then g.2.1 else g.1) (N, .inl (fun _ => 0)))
  rw [e1, hcA]
  rcases hb with ⟨rfl, rfl⟩ | ⟨rfl, rfl⟩ <;> rfl
theorem cw_new {idx ci N : Nat} {C0 : String} {F : u_T} {ty : Nat → FieldType} (hd : decode cc pc = .ok (.new idx, 3)) (hcl : CLk ci C0 F N ty) (hw1 : Cond.classLink own idx C0 ∈ TT) (hw2 : Cond.instantiable C0 N ∈ TT) (hw3 : Cond.initialized C0 ∈ TT) {fs : List Value} (hfs : ∀ j, j < N → defaultValue (ty j) = vp_V fs j) (hfn : fs.all (fun v => match v with | .ref _ => false | _ => true) = true) (hC : C + 1 ≤ C1) (hSl : S + N ≤ S1) (k : CW own cc nL d C1 S1 cs1 (C + 1) (S + N) (pc + 3) L (.ref cs.length :: st) (cs ++ [.inl (ci, fs)])) : CW own cc nL d C1 S1 cs1 C S pc L st cs := by
  intro p l e R s m args below meth c D g base aS aV Qs H locs ls X hret hP hz hS hl
  obtain ⟨r1, r2, r3, r4⟩ := X.2.2.2.2.2.2.2.1
  have hts := X.2.2.2.2.1
  have hKn := X.2.2.2.2.2.2.1.1.1 ci _ hcl.1
  have hfm : fs.map (cvv (bA base)) = fs := by
    have : ∀ v ∈ fs, cvv (bA base) v = v := fun v hv => by
      have := List.all_eq_true.mp hfn v hv
      cases v <;> first | rfl | cases this
    rw [List.map_congr_left this, List.map_id']
  refine W.newcK X.1 X.2.1 X.2.2.2.1 (hts _ hw1) (hts _ hw2) (hts _ hw3) rfl hd (by omega) (by omega) hKn.2.1 hz fun H1 kC hkC e1 z1 o1 => ?_
  have hk : ∀ (k : Nat) (x : Nat × va_E), (wsP g base cs)[k]? = some x → H1[x.1]? = H[x.1]? := fun k x hx => o1 x.1 (by rw [← hz]; exact (hP k x hx).lt)
  refine k p l e R s m args below meth c D g base aS aV Qs H1 locs ls X hret ?_ (by rw [z1, List.length_append]; rfl) ⟨by have := hS.1; omega, fun x h1 h2 => (o1 x (by have := hS.1; omega)).trans (hS.2.1 x h1 h2), hS.2.2⟩ hl
  rw [wsP_app]
  refine (hP.kept hk).app (fun k x hx => ?_)
  have hz : k < 1 := (List.getElem?_eq_some_iff.mp hx).1
  rw [show k = 0 by omega] at hx
  cases hx
  refine ⟨_, hcl.1, ?_⟩
  rw [hfm]
  exact (u_born ty hts hcl.2.1 hKn hkC e1 hcl.2.2.1).to hfs
theorem cw_newq {idx : Nat} {n : Int32} {N : Nat} (hd : decode cc pc = .ok (.anewarray idx, 3)) (hw : Cond.classLink own idx RX2 ∈ TT) (hn : ¬ n < 0) (hN : n.toNatClampNeg = N) (hN2 : N ≤ 100000) (hC : C + 1 ≤ C1) (hSl : S + N ≤ S1) (k : CW own cc nL d C1 S1 cs1 (C + 1) (S + N) (pc + 3) L (.ref cs.length :: st) (cs ++ [.inr (.inr (List.replicate N none))])) : CW own cc nL d C1 S1 cs1 C S pc L (.int n :: st) cs := by
  intro p l e R s m args below meth c D g base aS aV Qs H locs ls X hret hP hz hS hl
  obtain ⟨r1, r2, r3, r4⟩ := X.2.2.2.2.2.2.2.1
  have hKt := X.2.2.2.2.2.2.1.1.2
  subst hN
  refine W.anew X.1 X.2.1 X.2.2.2.1 (X.2.2.2.2.1 _ hw) (va_AO.use X.2.2.2.2.2.2.1.2.2.1) rfl hd rfl hn (by omega) (by omega) (by omega) fun cA kA comp f1 f2 f3 f4 => ?_
  generalize hH1 : H.push ({ cls := cA, slots := Array.replicate n.toNatClampNeg .null, vm := .none } : Cell) = H1
  have z1 : H1.size = H.size + 1 := by rw [← hH1, Array.size_push]
  have e1 : H1[H.size]? = some (arrV cA n.toNatClampNeg (fun _ => .null)) := by rw [← hH1, Array.getElem?_push_size, ← arrV_new]
  have o1 : ∀ q : Nat, q < H.size → H1[q]? = H[q]? := fun q hq => by rw [← hH1, Array.getElem?_push, if_neg (Nat.ne_of_lt hq)]
  have hcA : cA = g.2.2 := by
    obtain ⟨kA', comp', -, -, -, h4⟩ := (hKt 2 (g.2.2, .object RX2) rfl).2
    exact Option.some.inj (f1.symm.trans h4)
  have hk : ∀ (k : Nat) (x : Nat × va_E), (wsP g base cs)[k]? = some x → H1[x.1]? = H[x.1]? := fun k x hx => o1 x.1 ((hP k x hx).lt)
  have k2 := k p l e R s m args below meth c D g base aS aV Qs H1 locs ls X hret ?_ (by rw [z1, hz, List.length_append]; rfl) ⟨by have := hS.1; omega, fun x h1 h2 => (o1 x (by have := hS.1; omega)).trans (hS.2.1 x h1 h2), hS.2.2⟩ hl
  · rw [hz]; exact k2
  rw [wsP_app]
  refine (hP.kept hk).app (fun k x hx => ?_)
  have hz1 : k < 1 := (List.getElem?_eq_some_iff.mp hx).1
  rw [show k = 0 by omega] at hx
  cases hx
  show H1[base + cs.length]? = some (vp_cell g.2.2 ((List.replicate n.toNatClampNeg none).length, .inr (.inr (.inr (.inr (fun i => ((List.replicate n.toNatClampNeg (none : Option Nat)).getD i none).map (bA base)))))))
  rw [← hz, e1, vp_cell_q, hcA, List.length_replicate]
  congr 2
  funext i
  have : (List.replicate n.toNatClampNeg (none : Option Nat)).getD i none = none := by
    rw [List.getD_eq_getElem?_getD, List.getElem?_replicate]
    split <;> rfl
  rw [this]; rfl
theorem cw_get {idx ci j k0 : Nat} {fs : List Value} {v : Value} (hd : decode cc pc = .ok (.getfield idx, 3)) (hf : FLk own idx ci j) (hc : cs[k0]? = some (.inl (ci, fs))) (hv : fs[j]? = some v) (k : CW own cc nL d C1 S1 cs1 C S (pc + 3) L (v :: st) cs) : CW own cc nL d C1 S1 cs1 C S pc L (.ref k0 :: st) cs := by
  intro p l e R s m args below meth c D g base aS aV Qs H locs ls X hret hP hz hS hl
  obtain ⟨C2, F, N, ty, ⟨c1, c2, c3, c4⟩, hN, hw, hs⟩ := hf
  have k2 := k p l e R s m args below meth c D g base aS aV Qs H locs ls X hret hP hz hS hl
  exact va_get (C := C2) (T := F) (N := N) (ref := C2) X.1 X.2.1 X.2.2.2.2.1 c2 X.2.2.2.1 X.2.2.2.2.2.2.1.1 hP k0 (wsP_at hc) c1 j hN (X.2.2.2.2.1 _ hw) (fun x h => by rw [hs] at h; exact h) (by rw [List.getElem?_map, hv]; rfl) hd k2
theorem cw_ald {k0 r : Nat} {rs : List (Option Nat)} {i : Int32} (hd : decode cc pc = .ok (.aaload, 1)) (hc : cs[k0]? = some (.inr (.inr rs))) (hin : vp_in i rs.length) (hr : rs.getD i.toNatClampNeg none = some r) (k : CW own cc nL d C1 S1 cs1 C S (pc + 1) L (.ref r :: st) cs) : CW own cc nL d C1 S1 cs1 C S pc L (.int i :: .ref k0 :: st) cs := by
  intro p l e R s m args below meth c D g base aS aV Qs H locs ls X hret hP hz hS hl
  refine va_aldq X.1 X.2.1 X.2.2.2.2.2.2.1.1 hP k0 2 (wsP_at hc) rfl hin hd ?_
  have h1 : va_rf ((rs.getD i.toNatClampNeg none).map (bA base)) = .ref (bA base r) := by rw [hr]; rfl
  rw [h1]
  exact k p l e R s m args below meth c D g base aS aV Qs H locs ls X hret hP hz hS hl
/-- a final field -/
theorem cw_putF {idx ci j k0 : Nat} {fs : List Value} {t : FieldType} {v : Value} {q : vw_C} (hd : decode cc pc = .ok (.putfield idx, 3)) (hf : FLk own idx ci j) (hq : vwCl[ci]? = some q) (hfin : (q.2.1 j).2.2.2 = true) (hq1 : q.1 = own) (ht : parseFieldDescriptor (q.2.1 j).2.2.1 = some t) (hc : cs[k0]? = some (.inl (ci, fs))) (hj : j < fs.length) (hn : ∀ base, narrow t (cvv (bA base) v) = cvv (bA base) v) (hfit : ∀ base, fits t (cvv (bA base) v) = true) (k : CW own cc nL d C1 S1 cs1 C S (pc + 3) L st (cs.set k0 (.inl (ci, fs.set j v)))) : CW own cc nL d C1 S1 cs1 C S pc L (v :: .ref k0 :: st) cs := by
  intro p l e R s m args below meth c D g base aS aV Qs H locs ls X hret hP hz hS hl
  obtain ⟨C2, F, N, ty, ⟨c1, c2, c3, c4⟩, hN, hw, hs⟩ := hf
  have hqq : q = (C2, F, N) := Option.some.inj (hq.symm.trans c1)
  subst hqq
  have hq1 : C2 = own := hq1
  subst hq1
  have hts := X.2.2.2.2.1
  have hown := X.2.2.2.1
  have hK := X.2.2.2.2.2.2.1.1
  have hap := va_apart (own := C2) hts c2 ty c3 c4 hK c1
  have he := wsP_at (g := g) (base := base) hc
  obtain ⟨r, h1, cell, q1, q2, q3, q4⟩ := hP k0 _ he
  have hr : r = (C2, F, N) := Option.some.inj (h1.symm.trans c1)
  subst hr
  obtain ⟨hS', hfc, kC, hkC, hkind⟩ := hK.1 ci _ c1
  obtain ⟨cf, kf, fi, f, hi, hsl⟩ := hS' j hN
  have hlay := hts _ (c2 _ (u_in_lay hN))
  unfold u_lay at hlay
  rw [if_pos hfin] at hlay
  have hst := (u_facts hfc hkC (u_lays hts c2 hN) hi).1
  have hcf : m.cls = cf := by
    obtain ⟨_, _, c', _, _, _, -, -, hf', -, -, -, hown2, -⟩ := Cond.laysFinal_spec hlay
    have e1 : c' = cf := by have := hi.symm.trans hf'; simp at this; exact this.1.symm
    rw [hs] at hown2
    rw [← e1]; exact Option.some.inj (hown.symm.trans hown2)
  have h6 := u_fits hfc hkC hkind (Or.inr hlay) hi ht (hn base) (hfit base)
  have hsame : s.fieldFound? C2 (F j).2.1 (F j).2.2.1 = some (cf, kf, fi, f) := by rw [hs] at hi; exact hi
  refine W.putFinK X.1 X.2.1 hown (hts _ hw) hsame hst hcf X.2.2.2.2.2.1 (by rw [q2]; exact h6) q1 q3 (by rw [hsl]; exact k2_hasslot (q4 j hN)) rfl rfl hd fun H' e1 e2 e3 => ?_
  rw [hsl] at e1 ⊢
  refine k p l e R s m args below meth c D g base aS aV Qs H' _ ls X hret ?_ (by rw [e2, hz, List.length_set]) (hS.put e2 e3 (wsP_D.2 k0 _ he)) hl
  have := hP.set (e := .inr (ci, (fs.map (cvv (bA base))).set j (cvv (bA base) v))) wsP_D he ⟨_, c1, t_OB.to (V := updV (vp_V (fs.map (cvv (bA base)))) j (cvv (bA base) v)) ⟨_, e1, q2, q3, t_set q4 hap hN (cvv (bA base) v)⟩ (fun i _ => vp_updV_set (by rw [List.length_map]; exact hj) (cvv (bA base) v) i)⟩ e3
  have e9 : ((base + k0, Sum.inr (ci, (fs.map (cvv (bA base))).set j (cvv (bA base) v))) : Nat × va_E) = (base + k0, entP g base (.inl (ci, fs.set j v))) := by
    show (base + k0, (Sum.inr (ci, _) : va_E)) = (base + k0, Sum.inr (ci, (fs.set j v).map (cvv (bA base))))
    rw [List.map_set]
  rw [e9, wsP_set] at this
  exact this
/-- a field that isn't final -/
theorem cw_put {idx ci j k0 : Nat} {fs : List Value} {t : FieldType} {v : Value} {q : vw_C} (hd : decode cc pc = .ok (.putfield idx, 3)) (hf : FLk own idx ci j) (hq : vwCl[ci]? = some q) (hfin : (q.2.1 j).2.2.2 = false) (ht : parseFieldDescriptor (q.2.1 j).2.2.1 = some t) (hc : cs[k0]? = some (.inl (ci, fs))) (hj : j < fs.length) (hn : ∀ base, narrow t (cvv (bA base) v) = cvv (bA base) v) (hfit : ∀ base, fits t (cvv (bA base) v) = true) (k : CW own cc nL d C1 S1 cs1 C S (pc + 3) L st (cs.set k0 (.inl (ci, fs.set j v)))) : CW own cc nL d C1 S1 cs1 C S pc L (v :: .ref k0 :: st) cs := by
  intro p l e R s m args below meth c D g base aS aV Qs H locs ls X hret hP hz hS hl
  obtain ⟨C2, F, N, ty, ⟨c1, c2, c3, c4⟩, hN, hw, hs⟩ := hf
  have hqq : q = (C2, F, N) := Option.some.inj (hq.symm.trans c1)
  subst hqq
  have hts := X.2.2.2.2.1
  have hown := X.2.2.2.1
  have hK := X.2.2.2.2.2.2.1.1
  have hap := va_apart (own := C2) hts c2 ty c3 c4 hK c1
  have he := wsP_at (g := g) (base := base) hc
  obtain ⟨r, h1, cell, q1, q2, q3, q4⟩ := hP k0 _ he
  have hr : r = (C2, F, N) := Option.some.inj (h1.symm.trans c1)
  subst hr
  obtain ⟨hS', hfc, kC, hkC, hkind⟩ := hK.1 ci _ c1
  obtain ⟨cf, kf, fi, f, hi, hsl⟩ := hS' j hN
  have hlay := hts _ (c2 _ (u_in_lay hN))
  unfold u_lay at hlay
  have hfin : (F j).2.2.2 = false := hfin
  rw [if_neg (by rw [hfin]; decide)] at hlay
  have hst := (u_facts hfc hkC (u_lays hts c2 hN) hi).1
  have h6 := u_store hfc hkC hkind hlay hi ht (hn base) (hfit base)
  have hsame : s.fieldFound? C2 (F j).2.1 (F j).2.2.1 = some (cf, kf, fi, f) := by rw [hs] at hi; exact hi
  refine W.putK X.1 X.2.1 (f := f) ⟨hown, hts _ hw, ⟨_, _, _, hsame⟩, hst⟩ (by rw [q2]; exact h6) q1 q3 (by rw [hsl]; exact k2_hasslot (q4 j hN)) rfl rfl hd fun H' e1 e2 e3 => ?_
  rw [hsl] at e1 ⊢
  refine k p l e R s m args below meth c D g base aS aV Qs H' _ ls X hret ?_ (by rw [e2, hz, List.length_set]) (hS.put e2 e3 (wsP_D.2 k0 _ he)) hl
  have := hP.set (e := .inr (ci, (fs.map (cvv (bA base))).set j (cvv (bA base) v))) wsP_D he ⟨_, c1, t_OB.to (V := updV (vp_V (fs.map (cvv (bA base)))) j (cvv (bA base) v)) ⟨_, e1, q2, q3, t_set q4 hap hN (cvv (bA base) v)⟩ (fun i _ => vp_updV_set (by rw [List.length_map]; exact hj) (cvv (bA base) v) i)⟩ e3
  have e9 : ((base + k0, Sum.inr (ci, (fs.map (cvv (bA base))).set j (cvv (bA base) v))) : Nat × va_E) = (base + k0, entP g base (.inl (ci, fs.set j v))) := by
    show (base + k0, (Sum.inr (ci, _) : va_E)) = (base + k0, Sum.inr (ci, (fs.set j v).map (cvv (bA base))))
    rw [List.map_set]
  rw [e9, wsP_set] at this
  exact this
/-- an element of the laws -/
theorem cw_ast {k0 qk : Nat} {rs : List (Option Nat)} {vs : List Value} {i : Int32} (hd : decode cc pc = .ok (.aastore, 1)) (hc : cs[k0]? = some (.inr (.inr rs))) (hv : cs[qk]? = some (.inl (2, vs))) (hin : vp_in i rs.length) (k : CW own cc nL d C1 S1 cs1 C S (pc + 1) L st (cs.set k0 (.inr (.inr (rs.set i.toNatClampNeg (some qk)))))) : CW own cc nL d C1 S1 cs1 C S pc L (.ref qk :: .int i :: .ref k0 :: st) cs := by
  intro p l e R s m args below meth c D g base aS aV Qs H locs ls X hret hP hz hS hl
  have hK := X.2.2.2.2.2.2.1.1
  have ha := wsP_at (g := g) (base := base) hc
  have hlt : i.toNatClampNeg < rs.length := Nat.not_le.mp fun q => hin (Or.inr q)
  have h0 : ¬ i < 0 := fun q => hin (Or.inl q)
  obtain ⟨r', hr', cellV, g1, g2, g3, -⟩ := hP qk _ (wsP_at hv)
  have hcls := (hK.1 2 _ clX2.1).2
  obtain ⟨kA, comp, k1, k2, k3, -⟩ := (hK.2 2 (g.2.2, .object RX2) rfl).2
  have hcomp : comp = D.1 2 := Option.some.inj (k3.symm.trans hcls.1)
  subst hcomp
  obtain ⟨kC, hkC, -⟩ := hcls.2
  refine W.aast X.1 X.2.1 (hP k0 _ ha) (fun q h => by cases h) (fun h => by cases h) k1 k2 rfl hkC ⟨h0, by show _ < (arrV _ _ _).slots.size; rw [arrV_size]; exact hlt⟩ g1 (fun q h => by rw [g3] at h; cases h) (by rw [g2]; exact hkC) (by rw [g2]; exact va_assign hcls) rfl rfl hd fun H1 e z oq => ?_
  refine k p l _ R s m args below meth c D g base aS aV Qs H1 _ ls X hret ?_ (by rw [z, hz, List.length_set]) (hS.put z oq (wsP_D.2 k0 _ ha)) hl
  have := hP.set wsP_D ha (e := .inl (g.2.2, rs.length, .inr (.inr (.inr (.inr (va_up (fun i => (rs.getD i none).map (bA base)) i.toNatClampNeg (some (base + qk)))))))) ?_ oq
  · have e9 : ((base + k0, Sum.inl (g.2.2, rs.length, .inr (.inr (.inr (.inr (va_up (fun i => (rs.getD i none).map (bA base)) i.toNatClampNeg (some (base + qk)))))))) : Nat × va_E) = (base + k0, entP g base (.inr (.inr (rs.set i.toNatClampNeg (some qk))))) := by
      show (base + k0, (Sum.inl (g.2.2, rs.length, _) : va_E)) = (base + k0, Sum.inl (g.2.2, (rs.set i.toNatClampNeg (some qk)).length, _))
      have hf : va_up (fun i => (rs.getD i none).map (bA base)) i.toNatClampNeg (some (base + qk)) = (fun j => ((rs.set i.toNatClampNeg (some qk)).getD j none).map (bA base)) := by
        funext j
        show (if j = i.toNatClampNeg then some (base + qk) else (rs.getD j none).map (bA base)) = _
        rw [List.getD_eq_getElem?_getD, List.getD_eq_getElem?_getD]
        by_cases hj : j = i.toNatClampNeg
        · subst hj
          rw [if_pos rfl, List.getElem?_set_self hlt]; rfl
        · rw [if_neg hj, List.getElem?_set_ne (Ne.symm hj)]
      rw [hf, List.length_set]
    rw [e9, wsP_set] at this
    exact this
  · show H1[base + k0]? = some (vp_cell g.2.2 (rs.length, .inr (.inr (.inr (.inr (va_up (fun i => (rs.getD i none).map (bA base)) i.toNatClampNeg (some (base + qk))))))))
    have e : H1[base + k0]? = some ((vp_cell g.2.2 (rs.length, .inr (.inr (.inr (.inr (fun i => (rs.getD i none).map (bA base))))))).setSlot i.toNatClampNeg (.ref (base + qk))) := e
    rw [e, vp_cell_q, vp_cell_q, arrV_store]
    congr 2
    funext q
    by_cases hq : q = i.toNatClampNeg
    · subst hq
      simp [updV, va_up, va_rf]
    · simp [updV, va_up, hq]
theorem ci_blind {D : va_G} {g : G3} {base aS aV : Nat} {av : List Value} : FrameBlind (va_Pc (av.map (cvv (bA base))) (fun U => CST D g base aS aV U ∧ va_P D vwCl (wsP g base cs) U.heap ∧ U.heap.size = base + cs.length)) := by
  intro a U f mk h
  exact ⟨h.1, h.2.1.call f mk a, h.2.2⟩
theorem ci_cont {p : Program} {l : Launch} {e : Env} {R : Room} {s : State} {m : MethodId} {args : Array Value} {below : List Frame} {meth : Method} {c : Code} {H : Heap} {locs : List Loc} {cells slots mc ms : Nat} {Qs : State → Prop} {D : va_G} {g : G3} {base : Nat} {a : Array Value} {ls : Array Slot} {st0 rest : List Value} {cs2 : List PCl}
    (hr : va_Run p l e R s m args below meth c H locs cells slots mc ms (F0 m pc ls st0) rest (QIn D g base cs2 a) (fun q => base ≤ q)) (hS : va_S (fun q => base ≤ q) s.heap H locs)
    (kk : ∀ (H1 : Heap) (locs1 : List Loc), va_P D vwCl (wsP g base cs2) H1 → H1.size = base + cs2.length → va_S (fun q => base ≤ q) s.heap H1 locs1 → W p l e R s m args below meth c H1 locs1 (cells + mc) (slots + ms) Qs (F0 m (pc + 3) ls rest)) : W p l e R s m args below meth c H locs cells slots Qs (F0 m pc ls st0) := by
  intro T hT X
  obtain ⟨v, st₀, t, T', L, h0, X', hL, e1, e2, ⟨⟨hv, hp, hsz⟩, hz, hk⟩, st⟩ := hr T hT X
  cases hv
  rw [h0] at hz hk
  obtain ⟨t2, a1, b1⟩ := kk T'.heap (locs ++ L) (by rw [e1]; exact hp) (by rw [e1]; exact hsz)
    ⟨Nat.le_trans hS.1 (by rw [e1]; exact hz), fun q h1 h2 => by rw [e1, hk q (Nat.lt_of_lt_of_le h1 hS.1) h2]; exact hS.2.1 q h1 h2, fun q hq => by
      rcases List.mem_append.mp hq with h | h
      · exact hS.2.2 q h
      · exact hL q h⟩ T' rfl X'
  exact ⟨t2, st t2 a1, b1⟩
theorem cw_callI {mi : MI} {n idx k0 mc ms : Nat} {av st0 : List Value} {cs2 : List PCl} (hd : decode cc pc = .ok (.invokespecial idx, 3)) (hw : Cond.methodLink own idx mi.1 ∈ TT) (ho : MIk mi n) (hnm : mi.1.name = "<init>") (hrt : mi.2.2.2 = none) (hn : av.length = n) (hst : av.reverse ++ .ref k0 :: st = st0) (hc8 : (st.map fun v => v.category).sum ≤ 8) (hC : C + mc ≤ C1) (hSl : S + ms ≤ S1) (h : CMt d mi (.ref k0 :: av) cs mc ms cs2) (k : CW own cc nL (d + 1) C1 S1 cs1 (C + mc) (S + ms) (pc + 3) L st cs2) : CW own cc nL (d + 1) C1 S1 cs1 C S pc L st0 cs := by
  subst hst
  intro p l e R s m args below meth c D g base aS aV Qs H locs ls X hret hP hz hS hl
  obtain ⟨hx, hb, hml, hown, hts, hin, hST, ⟨r1, r2, r3, r4⟩, hbs⟩ := id X
  obtain ⟨⟨i1, i2, ⟨i3, i4, i5⟩, i6, i7⟩, i8⟩ := ho
  have i2' : Cond.code mi.1 mi.2.1 mi.2.2.1 none ∈ TT := by rw [← hrt]; exact i2
  have hrun := va_runI (p := p) (l := l) (e := e) (R := R) (s := s) (m := m) (args := args) (below := below) (meth := meth) (c := c) (H := H) (locs := locs) (cells := C) (slots := S) (mc := mc) (ms := ms) (g := F0 m pc ls ((av.reverse ++ .ref k0 :: st).map (cvv (bA base)))) (As := av.map (cvv (bA base))) (rest := st.map (cvv (bA base))) (n := n) (y := mi.1) (b := base + k0) (bytes := mi.2.1) (maxL := mi.2.2.1) ⟨hx, hb, hml, hown, hts⟩ (h l D g base aS aV) ⟨⟨rfl, rfl, (show d + 1 ≤ R.frames by omega), (show 8 + (mi.2.2.1 + 11) + 64 * d ≤ R.locals by omega), tt_ws hts i2, by rw [hrt]; exact List.mem_cons_self, hts _ i2', hts _ i1, ⟨i3, i4⟩, (fun sig h => by rw [h] at i5; exact (Option.some.inj i5).symm), hts _ hw⟩, hnm, hts _ i8⟩ ⟨ci_blind, fun U hU hW => ⟨rfl, hST.go hS hU hW, by rw [hU]; exact hP, by rw [hU]; exact hz⟩⟩ rfl (by rw [List.length_map]; exact hn) hl.1 (by show (av.reverse ++ .ref k0 :: st).map (cvv (bA base)) = _; rw [List.map_append, List.map_reverse]; rfl) (lv_room (by rw [cat_sum]; exact hc8)) hd ⟨by omega, by omega⟩
  exact ci_cont hrun hS (fun H1 locs1 hP1 hz1 hS1 => k p l e R s m args below meth c D g base aS aV Qs H1 locs1 ls X hret hP1 hz1 hS1 hl)
theorem cw_callIN {mi : MI} {n idx k0 mc ms : Nat} {av st0 : List Value} {cs2 : List PCl} (hd : decode cc pc = .ok (.invokespecial idx, 3)) (hw : (own, idx, mi.1, "TallerWitness") ∈ nestI) (ho : MIk mi n) (hnm : mi.1.name = "<init>") (hrt : mi.2.2.2 = none) (hn : av.length = n) (hst : av.reverse ++ .ref k0 :: st = st0) (hc8 : (st.map fun v => v.category).sum ≤ 8) (hC : C + mc ≤ C1) (hSl : S + ms ≤ S1) (h : CMt d mi (.ref k0 :: av) cs mc ms cs2) (k : CW own cc nL (d + 1) C1 S1 cs1 (C + mc) (S + ms) (pc + 3) L st cs2) : CW own cc nL (d + 1) C1 S1 cs1 C S pc L st0 cs := by
  subst hst
  intro p l e R s m args below meth c D g base aS aV Qs H locs ls X hret hP hz hS hl
  obtain ⟨hx, hb, hml, hown, hts, hin, hST, ⟨r1, r2, r3, r4⟩, hbs⟩ := id X
  obtain ⟨⟨i1, i2, ⟨i3, i4, i5⟩, i6, i7⟩, i8⟩ := ho
  have i2' : Cond.code mi.1 mi.2.1 mi.2.2.1 none ∈ TT := by rw [← hrt]; exact i2
  have hrun := va_runIN (p := p) (l := l) (e := e) (R := R) (s := s) (m := m) (args := args) (below := below) (meth := meth) (c := c) (H := H) (locs := locs) (cells := C) (slots := S) (mc := mc) (ms := ms) (g := F0 m pc ls ((av.reverse ++ .ref k0 :: st).map (cvv (bA base)))) (As := av.map (cvv (bA base))) (rest := st.map (cvv (bA base))) (n := n) (y := mi.1) (host := "TallerWitness") (b := base + k0) (bytes := mi.2.1) (maxL := mi.2.2.1) ⟨hx, hb, hml, hown, hts⟩ (h l D g base aS aV) ⟨⟨⟨rfl, rfl, (show d + 1 ≤ R.frames by omega), (show 8 + (mi.2.2.1 + 11) + 64 * d ≤ R.locals by omega), tt_ws hts i2, by rw [hrt]; exact List.mem_cons_self⟩, hts _ i2', hts _ i1, ⟨i3, i4⟩, (fun sig h => by rw [h] at i5; exact (Option.some.inj i5).symm), va_Nw.use rfl (hST.2.1 _ hw)⟩, hnm, hts _ i8⟩ ⟨ci_blind, fun U hU hW => ⟨rfl, hST.go hS hU hW, by rw [hU]; exact hP, by rw [hU]; exact hz⟩⟩ rfl (by rw [List.length_map]; exact hn) hl.1 (by show (av.reverse ++ .ref k0 :: st).map (cvv (bA base)) = _; rw [List.map_append, List.map_reverse]; rfl) (lv_room (by rw [cat_sum]; exact hc8)) hd ⟨by omega, by omega⟩
  exact ci_cont hrun hS (fun H1 locs1 hP1 hz1 hS1 => k p l e R s m args below meth c D g base aS aV Qs H1 locs1 ls X hret hP1 hz1 hS1 hl)
end CWR
