theorem sf_9 : Cond.fieldLink RJ0 9 "java/lang/String" "value" "[B" ∈ TT := tT7 (List.mem_of_getElem? (i := 22) (by decide +kernel)) (by decide +kernel)
theorem sf_15 : Cond.fieldLink RJ0 15 "java/lang/String" "coder" "B" ∈ TT := tT7 (List.mem_of_getElem? (i := 23) (by decide +kernel)) (by decide +kernel)
theorem sf_38 : Cond.fieldLink RJ0 38 "java/lang/String" "COMPACT_STRINGS" "Z" ∈ TT := tT1 (List.mem_of_getElem? (i := 49) (by decide +kernel)) (by decide +kernel)
/-- a text's bytes -/
def strB (i : Nat) : List Int32 := (strT.map fun q => q.2.2).getD i []
theorem strL_eq : ∀ i, i < strT.length → (strT.map fun q => q.2.2.length).getD i 0 = (strB i).length ∧ (strB i).length < 100 := by decide +kernel
section AMS
variable {X : Option (Nat × (Nat → Int32))} {own : String} {cc : ByteArray} {nL : Nat} {rt : Option FieldType} {d : Nat} {Q : Option Int32 → Mem → Prop} {pc : Nat} {L : List (Option Value)} {st : List Value} {M : Mem}
theorem aw_ldcS {i idx : Nat} {tx : String} {bs : List Int32} (hd : decode cc pc = .ok (.ldc idx, 2)) (hs : strT[i]? = some (idx, tx, bs)) (k : AW X RX3 cc nL rt d Q (pc + 2) L (.ref (1000 + i) :: st) M) : AW X RX3 cc nL rt d Q pc L st M := by
  intro p l e R s m args below meth c D g ad adV cells slots Qs H locs ls C hret hP hS hl
  exact va_ldcS C.1 C.2.1 C.2.2.2.1 (C.2.2.2.2.2.2.1.2.2.2.1 i _ hs) hd (k p l e R s m args below meth c D g ad adV cells slots Qs H locs ls C hret hP hS hl)
theorem aw_sgetv {i : Nat} (hi : i < strT.length) (hd : decode cc pc = .ok (.getfield 9, 3)) (k : AW X RJ0 cc nL rt d Q (pc + 3) L (.ref (2000 + i) :: st) M) : AW X RJ0 cc nL rt d Q pc L (.ref (1000 + i) :: st) M := by
  intro p l e R s m args below meth c D g ad adV cells slots Qs H locs ls C hret hP hS hl
  exact vk_getf C.1 C.2.1 (C.2.2.2.2.2.2.1.2.2.2.2.1.1 i hi).2.2.1 hS C.2.2.2.1 (C.2.2.2.2.1 _ sf_9) (fun _ h => h) hd (k p l e R s m args below meth c D g ad adV cells slots Qs H locs ls C hret hP hS hl)
theorem aw_sgetc {i : Nat} (hi : i < strT.length) (hd : decode cc pc = .ok (.getfield 15, 3)) (k : AW X RJ0 cc nL rt d Q (pc + 3) L (.int 0 :: st) M) : AW X RJ0 cc nL rt d Q pc L (.ref (1000 + i) :: st) M := by
  intro p l e R s m args below meth c D g ad adV cells slots Qs H locs ls C hret hP hS hl
  exact vk_getf C.1 C.2.1 (C.2.2.2.2.2.2.1.2.2.2.2.1.1 i hi).2.1 hS C.2.2.2.1 (C.2.2.2.2.1 _ sf_15) (fun _ h => h) hd (k p l e R s m args below meth c D g ad adV cells slots Qs H locs ls C hret hP hS hl)
theorem aw_sgets (hd : decode cc pc = .ok (.getstatic 38, 3)) (k : AW X RJ0 cc nL rt d Q (pc + 3) L (.int 1 :: st) M) : AW X RJ0 cc nL rt d Q pc L st M := by
  intro p l e R s m args below meth c D g ad adV cells slots Qs H locs ls C hret hP hS hl
  exact va_gets C.1 C.2.1 C.2.2.2.2.2.2.1.2.2.2.2.2 hS C.2.2.2.1 (C.2.2.2.2.1 _ sf_38) (fun _ h => h) hd (k p l e R s m args below meth c D g ad adV cells slots Qs H locs ls C hret hP hS hl)
theorem aw_slenB {i : Nat} (hi : i < strT.length) (hd : decode cc pc = .ok (.arraylength, 1)) (k : AW X own cc nL rt d Q (pc + 1) L (.int (nI (strB i).length) :: st) M) : AW X own cc nL rt d Q pc L (.ref (2000 + i) :: st) M := by
  intro p l e R s m args below meth c D g ad adV cells slots Qs H locs ls C hret hP hS hl
  obtain ⟨cell, t1, t2, t3, t4, t5, t6, t7⟩ := (C.2.2.2.2.2.2.1.2.2.2.2.1.1 i hi).2.2.2
  have e0 := (strL_eq i hi).1
  rw [e0] at t5
  exact W.alen (n := nI (strB i).length) C.1 C.2.1 (by rw [hS.2.1 _ (Array.getElem?_eq_some_iff.mp t1).1 t7]; exact t1) t2 t5 rfl rfl hd (k p l e R s m args below meth c D g ad adV cells slots Qs H locs ls C hret hP hS hl)
theorem aw_sbald {i : Nat} (hi : i < strT.length) {j : Int32} (hd : decode cc pc = .ok (.baload, 1)) (hin : vp_in j (strB i).length) (k : AW X own cc nL rt d Q (pc + 1) L (.int ((strB i).getD (ix j) 0) :: st) M) : AW X own cc nL rt d Q pc L (.int j :: .ref (2000 + i) :: st) M := by
  intro p l e R s m args below meth c D g ad adV cells slots Qs H locs ls C hret hP hS hl
  have hT := (C.2.2.2.2.2.2.1.2.2.2.2.1.1 i hi).2.2.2
  rw [(strL_eq i hi).1] at hT
  exact va_tb C.1 C.2.1 hT hS hin rfl hd (k p l e R s m args below meth c D g ad adV cells slots Qs H locs ls C hret hP hS hl)
theorem aw_callT {mi : MI} {n idx i : Nat} {av st0 : List Value} (hi : i < strT.length) (hd : decode cc pc = .ok (.invokevirtual idx, 3)) (hw : Cond.methodLink own idx mi.1 ∈ TT) (ho : MVk mi n) (hC1 : mi.1.cls = "java/lang/String") (hn : av.length = n) (hst : av.reverse ++ .ref (1000 + i) :: st = st0) (hc8 : (st.map fun v => v.category).sum ≤ 8) (h : AM d mi (.ref (1000 + i) :: av) M (fun r M' => AW X own cc nL rt (d + 1) Q (pc + 3) L (rst r ++ st) M')) : AW X own cc nL rt (d + 1) Q pc L st0 M := by
  subst hst
  intro p l e R s m args below meth c D g ad adV cells slots Qs H locs ls C hret hP hS hl
  obtain ⟨hx, hb, hml, hown, hts, hrt, hST, ⟨r1, r2, r3, r4⟩, hX⟩ := id C
  obtain ⟨⟨i1, i2, ⟨i3, i4, i5⟩, i6, i7⟩, i8⟩ := ho
  have hrun := va_runV (p := p) (l := l) (e := e) (R := R) (s := s) (m := m) (args := args) (below := below) (meth := meth) (c := c) (H := H) (locs := locs) (cells := cells) (slots := slots) (g := F0 m pc ls ((av.reverse ++ .ref (1000 + i) :: st).map (cvv ad))) (As := av.map (cvv ad)) (rest := st.map (cvv ad)) (n := n) (y := mi.1) (C := mi.1.cls) (b := ad (1000 + i)) (bytes := mi.2.1) (maxL := mi.2.2.1) (ret := mi.2.2.2) ⟨hx, hb, hml, hown, hts⟩ (h l D g ad adV) ⟨⟨rfl, rfl, (show d + 1 ≤ R.frames by omega), (show 8 + (mi.2.2.1 + 11) + 64 * d ≤ R.locals by omega), tt_ws hts i2, List.mem_cons_self, hts _ i2, hts _ i1, ⟨i3, i4⟩, (fun sig h => by rw [h] at i5; exact (Option.some.inj i5).symm), hts _ hw⟩, hts _ i8.1, hts _ i8.2⟩ ⟨am_blind, by rw [hC1]; exact vk_recv (i := i) (adK := fun i => ad (1000 + i)) hST.2.2.2.2.1 hi hS, fun U hU hW => ⟨rfl, hST.go hS hU hW, by rw [hU]; exact hP⟩⟩ rfl (by rw [List.length_map]; exact hn) hl.1 (by show (av.reverse ++ .ref (1000 + i) :: st).map (cvv ad) = _; rw [List.map_append, List.map_reverse]; rfl) (lv_room (by rw [cat_sum]; exact hc8)) hd ⟨r3, r4⟩
  refine am_cont hrun hS (fun r M2 H1 locs1 hq hP1 hS1 => ?_)
  have k2 := hq p l e R s m args below meth c D g ad adV cells slots Qs H1 locs1 ls C hret hP1 hS1 hl
  rw [rst_map] at k2
  exact k2
end AMS
