section AMR
variable {X : Option (Nat × (Nat → Int32))} {own : String} {cc : ByteArray} {nL : Nat} {rt : Option FieldType} {d : Nat} {Q : Option Int32 → Mem → Prop} {pc : Nat} {L : List (Option Value)} {st : List Value} {M : Mem}
theorem aw_iconst {n : Int} {v : Int32} (hd : decode cc pc = .ok (.iconst n, 1)) (hv : Int32.ofInt n = v) (k : AW X own cc nL rt d Q (pc + 1) L (.int v :: st) M) : AW X own cc nL rt d Q pc L st M := by
  intro p l e R s m args below meth c D g ad adV cells slots Qs H locs ls C hret hP hS hl
  exact lv_iconst C.1 C.2.1 hd hv (k p l e R s m args below meth c D g ad adV cells slots Qs H locs ls C hret hP hS hl)
theorem aw_bipush {n : Int} {v : Int32} (hd : decode cc pc = .ok (.bipush n, 2)) (hv : (Int8.ofInt n).toInt32 = v) (k : AW X own cc nL rt d Q (pc + 2) L (.int v :: st) M) : AW X own cc nL rt d Q pc L st M := by
  intro p l e R s m args below meth c D g ad adV cells slots Qs H locs ls C hret hP hS hl
  exact lv_bipush C.1 C.2.1 hd hv (k p l e R s m args below meth c D g ad adV cells slots Qs H locs ls C hret hP hS hl)
theorem aw_sipush {n : Int} {v : Int32} (hd : decode cc pc = .ok (.sipush n, 3)) (hv : (Int16.ofInt n).toInt32 = v) (k : AW X own cc nL rt d Q (pc + 3) L (.int v :: st) M) : AW X own cc nL rt d Q pc L st M := by
  intro p l e R s m args below meth c D g ad adV cells slots Qs H locs ls C hret hP hS hl
  exact lv_sipush C.1 C.2.1 hd hv (k p l e R s m args below meth c D g ad adV cells slots Qs H locs ls C hret hP hS hl)
theorem aw_ldc {n : Nat} {v : Int32} (hd : decode cc pc = .ok (.ldc n, 2)) (hw : Cond.constant own n v ∈ TT) (k : AW X own cc nL rt d Q (pc + 2) L (.int v :: st) M) : AW X own cc nL rt d Q pc L st M := by
  intro p l e R s m args below meth c D g ad adV cells slots Qs H locs ls C hret hP hS hl
  exact lv_ldc C.1 C.2.1 C.2.2.2.1 (C.2.2.2.2.1 _ hw) hd (k p l e R s m args below meth c D g ad adV cells slots Qs H locs ls C hret hP hS hl)
theorem aw_ldcw {n : Nat} {v : Int32} (hd : decode cc pc = .ok (.ldc_w n, 3)) (hw : Cond.constant own n v ∈ TT) (k : AW X own cc nL rt d Q (pc + 3) L (.int v :: st) M) : AW X own cc nL rt d Q pc L st M := by
  intro p l e R s m args below meth c D g ad adV cells slots Qs H locs ls C hret hP hS hl
  exact lv_ldcw C.1 C.2.1 C.2.2.2.1 (C.2.2.2.2.1 _ hw) hd (k p l e R s m args below meth c D g ad adV cells slots Qs H locs ls C hret hP hS hl)
theorem aw_iload_n {k0 : Fin 4} {i : Nat} {x : Int32} (hd : decode cc pc = .ok (.iload_n k0, 1)) (hi : (k0 : Nat) = i) (hv : L[i]? = some (some (.int x))) (k : AW X own cc nL rt d Q (pc + 1) L (.int x :: st) M) : AW X own cc nL rt d Q pc L st M := by
  intro p l e R s m args below meth c D g ad adV cells slots Qs H locs ls C hret hP hS hl
  exact lv_iload_n C.1 C.2.1 hd hi (hl.at hv) (k p l e R s m args below meth c D g ad adV cells slots Qs H locs ls C hret hP hS hl)
theorem aw_iload {i : Nat} {x : Int32} (hd : decode cc pc = .ok (.iload i, 2)) (hv : L[i]? = some (some (.int x))) (k : AW X own cc nL rt d Q (pc + 2) L (.int x :: st) M) : AW X own cc nL rt d Q pc L st M := by
  intro p l e R s m args below meth c D g ad adV cells slots Qs H locs ls C hret hP hS hl
  exact lv_iload C.1 C.2.1 hd (hl.at hv) (k p l e R s m args below meth c D g ad adV cells slots Qs H locs ls C hret hP hS hl)
theorem aw_aload_n {k0 : Fin 4} {i x : Nat} (hd : decode cc pc = .ok (.aload_n k0, 1)) (hi : (k0 : Nat) = i) (hv : L[i]? = some (some (.ref x))) (k : AW X own cc nL rt d Q (pc + 1) L (.ref x :: st) M) : AW X own cc nL rt d Q pc L st M := by
  intro p l e R s m args below meth c D g ad adV cells slots Qs H locs ls C hret hP hS hl
  exact lv_aload_n C.1 C.2.1 hd hi (hl.at hv) (k p l e R s m args below meth c D g ad adV cells slots Qs H locs ls C hret hP hS hl)
theorem aw_aload {i x : Nat} (hd : decode cc pc = .ok (.aload i, 2)) (hv : L[i]? = some (some (.ref x))) (k : AW X own cc nL rt d Q (pc + 2) L (.ref x :: st) M) : AW X own cc nL rt d Q pc L st M := by
  intro p l e R s m args below meth c D g ad adV cells slots Qs H locs ls C hret hP hS hl
  exact lv_aload C.1 C.2.1 hd (hl.at hv) (k p l e R s m args below meth c D g ad adV cells slots Qs H locs ls C hret hP hS hl)
theorem aw_iadd {x y : Int32} (hd : decode cc pc = .ok (.iadd, 1)) (k : AW X own cc nL rt d Q (pc + 1) L (.int (x + y) :: st) M) : AW X own cc nL rt d Q pc L (.int y :: .int x :: st) M := by
  intro p l e R s m args below meth c D g ad adV cells slots Qs H locs ls C hret hP hS hl
  exact lv_iadd C.1 C.2.1 hd (k p l e R s m args below meth c D g ad adV cells slots Qs H locs ls C hret hP hS hl)
theorem aw_isub {x y : Int32} (hd : decode cc pc = .ok (.isub, 1)) (k : AW X own cc nL rt d Q (pc + 1) L (.int (x - y) :: st) M) : AW X own cc nL rt d Q pc L (.int y :: .int x :: st) M := by
  intro p l e R s m args below meth c D g ad adV cells slots Qs H locs ls C hret hP hS hl
  exact lv_isub C.1 C.2.1 hd (k p l e R s m args below meth c D g ad adV cells slots Qs H locs ls C hret hP hS hl)
theorem aw_imul {x y : Int32} (hd : decode cc pc = .ok (.imul, 1)) (k : AW X own cc nL rt d Q (pc + 1) L (.int (x * y) :: st) M) : AW X own cc nL rt d Q pc L (.int y :: .int x :: st) M := by
  intro p l e R s m args below meth c D g ad adV cells slots Qs H locs ls C hret hP hS hl
  exact lv_imul C.1 C.2.1 hd (k p l e R s m args below meth c D g ad adV cells slots Qs H locs ls C hret hP hS hl)
theorem aw_iand {x y : Int32} (hd : decode cc pc = .ok (.iand, 1)) (k : AW X own cc nL rt d Q (pc + 1) L (.int (x &&& y) :: st) M) : AW X own cc nL rt d Q pc L (.int y :: .int x :: st) M := by
  intro p l e R s m args below meth c D g ad adV cells slots Qs H locs ls C hret hP hS hl
  exact lv_iand C.1 C.2.1 hd (k p l e R s m args below meth c D g ad adV cells slots Qs H locs ls C hret hP hS hl)
theorem aw_ior {x y : Int32} (hd : decode cc pc = .ok (.ior, 1)) (k : AW X own cc nL rt d Q (pc + 1) L (.int (x ||| y) :: st) M) : AW X own cc nL rt d Q pc L (.int y :: .int x :: st) M := by
  intro p l e R s m args below meth c D g ad adV cells slots Qs H locs ls C hret hP hS hl
  exact lv_ior C.1 C.2.1 hd (k p l e R s m args below meth c D g ad adV cells slots Qs H locs ls C hret hP hS hl)
theorem aw_ixor {x y : Int32} (hd : decode cc pc = .ok (.ixor, 1)) (k : AW X own cc nL rt d Q (pc + 1) L (.int (x ^^^ y) :: st) M) : AW X own cc nL rt d Q pc L (.int y :: .int x :: st) M := by
  intro p l e R s m args below meth c D g ad adV cells slots Qs H locs ls C hret hP hS hl
  exact lv_ixor C.1 C.2.1 hd (k p l e R s m args below meth c D g ad adV cells slots Qs H locs ls C hret hP hS hl)
theorem aw_ishl {x y : Int32} (hd : decode cc pc = .ok (.ishl, 1)) (k : AW X own cc nL rt d Q (pc + 1) L (.int (x <<< (y &&& 31)) :: st) M) : AW X own cc nL rt d Q pc L (.int y :: .int x :: st) M := by
  intro p l e R s m args below meth c D g ad adV cells slots Qs H locs ls C hret hP hS hl
  exact lv_ishl C.1 C.2.1 hd (k p l e R s m args below meth c D g ad adV cells slots Qs H locs ls C hret hP hS hl)
theorem aw_ishr {x y : Int32} (hd : decode cc pc = .ok (.ishr, 1)) (k : AW X own cc nL rt d Q (pc + 1) L (.int (x >>> (y &&& 31)) :: st) M) : AW X own cc nL rt d Q pc L (.int y :: .int x :: st) M := by
  intro p l e R s m args below meth c D g ad adV cells slots Qs H locs ls C hret hP hS hl
  exact lv_ishr C.1 C.2.1 hd (k p l e R s m args below meth c D g ad adV cells slots Qs H locs ls C hret hP hS hl)
theorem aw_idiv {x y : Int32} (hd : decode cc pc = .ok (.idiv, 1)) (hne : ¬ y = 0) (k : AW X own cc nL rt d Q (pc + 1) L (.int (x / y) :: st) M) : AW X own cc nL rt d Q pc L (.int y :: .int x :: st) M := by
  intro p l e R s m args below meth c D g ad adV cells slots Qs H locs ls C hret hP hS hl
  exact lv_idiv C.1 C.2.1 hd hne (k p l e R s m args below meth c D g ad adV cells slots Qs H locs ls C hret hP hS hl)
theorem aw_irem {x y : Int32} (hd : decode cc pc = .ok (.irem, 1)) (hne : ¬ y = 0) (k : AW X own cc nL rt d Q (pc + 1) L (.int (x - x / y * y) :: st) M) : AW X own cc nL rt d Q pc L (.int y :: .int x :: st) M := by
  intro p l e R s m args below meth c D g ad adV cells slots Qs H locs ls C hret hP hS hl
  exact lv_irem C.1 C.2.1 hd hne (k p l e R s m args below meth c D g ad adV cells slots Qs H locs ls C hret hP hS hl)
theorem aw_ineg {x : Int32} (hd : decode cc pc = .ok (.ineg, 1)) (k : AW X own cc nL rt d Q (pc + 1) L (.int (-x) :: st) M) : AW X own cc nL rt d Q pc L (.int x :: st) M := by
  intro p l e R s m args below meth c D g ad adV cells slots Qs H locs ls C hret hP hS hl
  exact lv_ineg C.1 C.2.1 hd (k p l e R s m args below meth c D g ad adV cells slots Qs H locs ls C hret hP hS hl)
theorem aw_i2b {x : Int32} (hd : decode cc pc = .ok (.i2b, 1)) (k : AW X own cc nL rt d Q (pc + 1) L (.int x.toInt8.toInt32 :: st) M) : AW X own cc nL rt d Q pc L (.int x :: st) M := by
  intro p l e R s m args below meth c D g ad adV cells slots Qs H locs ls C hret hP hS hl
  exact lv_i2b C.1 C.2.1 hd rfl (k p l e R s m args below meth c D g ad adV cells slots Qs H locs ls C hret hP hS hl)
theorem aw_i2c {x : Int32} (hd : decode cc pc = .ok (.i2c, 1)) (k : AW X own cc nL rt d Q (pc + 1) L (.int (x.toUInt32 % 65536).toInt32 :: st) M) : AW X own cc nL rt d Q pc L (.int x :: st) M := by
  intro p l e R s m args below meth c D g ad adV cells slots Qs H locs ls C hret hP hS hl
  exact lv_i2c C.1 C.2.1 hd rfl (k p l e R s m args below meth c D g ad adV cells slots Qs H locs ls C hret hP hS hl)
theorem aw_iushr {x y : Int32} (hd : decode cc pc = .ok (.iushr, 1)) (k : AW X own cc nL rt d Q (pc + 1) L (.int (x.toUInt32 >>> (y.toUInt32 &&& Int32.toUInt32 31)).toInt32 :: st) M) : AW X own cc nL rt d Q pc L (.int y :: .int x :: st) M := by
  intro p l e R s m args below meth c D g ad adV cells slots Qs H locs ls C hret hP hS hl
  exact lv_iushr C.1 C.2.1 hd rfl (k p l e R s m args below meth c D g ad adV cells slots Qs H locs ls C hret hP hS hl)
theorem aw_dup {v : Value} (hd : decode cc pc = .ok (.dup, 1)) (hv : v.category = 1) (k : AW X own cc nL rt d Q (pc + 1) L (v :: v :: st) M) : AW X own cc nL rt d Q pc L (v :: st) M := by
  intro p l e R s m args below meth c D g ad adV cells slots Qs H locs ls C hret hP hS hl
  exact lv_dup C.1 C.2.1 hd (by rw [cvv_cat]; exact hv) (k p l e R s m args below meth c D g ad adV cells slots Qs H locs ls C hret hP hS hl)
theorem aw_pop {v : Value} (hd : decode cc pc = .ok (.pop, 1)) (hv : v.category = 1) (k : AW X own cc nL rt d Q (pc + 1) L st M) : AW X own cc nL rt d Q pc L (v :: st) M := by
  intro p l e R s m args below meth c D g ad adV cells slots Qs H locs ls C hret hP hS hl
  exact lv_pop C.1 C.2.1 hd (by rw [cvv_cat]; exact hv) (k p l e R s m args below meth c D g ad adV cells slots Qs H locs ls C hret hP hS hl)
theorem aw_dup2 {v w : Value} (hd : decode cc pc = .ok (.dup2, 1)) (hv : v.category = 1) (hw : w.category = 1) (k : AW X own cc nL rt d Q (pc + 1) L (v :: w :: v :: w :: st) M) : AW X own cc nL rt d Q pc L (v :: w :: st) M := by
  intro p l e R s m args below meth c D g ad adV cells slots Qs H locs ls C hret hP hS hl
  exact lv_dup2_11 C.1 C.2.1 hd (by rw [cvv_cat]; exact hv) (by rw [cvv_cat]; exact hw) (k p l e R s m args below meth c D g ad adV cells slots Qs H locs ls C hret hP hS hl)
theorem aw_istore_n {k0 : Fin 4} {i : Nat} {x : Int32} (hd : decode cc pc = .ok (.istore_n k0, 1)) (hi : (k0 : Nat) = i) (hn : i < nL) {L2 : List (Option Value)} (hL : L.set i (some (.int x)) = L2) (k : AW X own cc nL rt d Q (pc + 1) L2 st M) : AW X own cc nL rt d Q pc L ((.int x) :: st) M := by
  subst hL
  intro p l e R s m args below meth c D g ad adV cells slots Qs H locs ls C hret hP hS hl
  exact lv_istore_n C.1 C.2.1 hd hi hl.lv hn rfl (fun ls2 h2 => (k p l e R s m args below meth c D g ad adV cells slots Qs H locs ls2 C hret hP hS (hl.put (v := (.int x)) rfl h2)))
theorem aw_istore {i : Nat} {x : Int32} (hd : decode cc pc = .ok (.istore i, 2)) (hn : i < nL) {L2 : List (Option Value)} (hL : L.set i (some (.int x)) = L2) (k : AW X own cc nL rt d Q (pc + 2) L2 st M) : AW X own cc nL rt d Q pc L ((.int x) :: st) M := by
  subst hL
  intro p l e R s m args below meth c D g ad adV cells slots Qs H locs ls C hret hP hS hl
  exact lv_istore C.1 C.2.1 hd  hl.lv hn rfl (fun ls2 h2 => (k p l e R s m args below meth c D g ad adV cells slots Qs H locs ls2 C hret hP hS (hl.put (v := (.int x)) rfl h2)))
theorem aw_astore_n {k0 : Fin 4} {i x : Nat} (hd : decode cc pc = .ok (.astore_n k0, 1)) (hi : (k0 : Nat) = i) (hn : i < nL) {L2 : List (Option Value)} (hL : L.set i (some (.ref x)) = L2) (k : AW X own cc nL rt d Q (pc + 1) L2 st M) : AW X own cc nL rt d Q pc L ((.ref x) :: st) M := by
  subst hL
  intro p l e R s m args below meth c D g ad adV cells slots Qs H locs ls C hret hP hS hl
  exact lv_astore_n C.1 C.2.1 hd hi hl.lv hn rfl (fun ls2 h2 => (k p l e R s m args below meth c D g ad adV cells slots Qs H locs ls2 C hret hP hS (hl.put (v := (.ref x)) rfl h2)))
theorem aw_iinc {i : Nat} {n : Int} {x : Int32} (hd : decode cc pc = .ok (.iinc i n, 3)) (hv : L[i]? = some (some (.int x))) {y : Int32} (hy : Int32.ofInt n = y) (hn : i < nL) {L2 : List (Option Value)} (hL : L.set i (some (.int (x + y))) = L2) (k : AW X own cc nL rt d Q (pc + 3) L2 st M) : AW X own cc nL rt d Q pc L st M := by
  subst hL; subst hy
  intro p l e R s m args below meth c D g ad adV cells slots Qs H locs ls C hret hP hS hl
  have hm : (i, Value.int x) ∈ lof ad L := lof_mem.mpr ⟨.int x, hv, rfl⟩
  obtain ⟨k0, hk0⟩ := List.getElem?_of_mem hm
  exact lv_iinc C.1 C.2.1 hd hl.lv hk0 rfl hn rfl (fun ls2 h2 => (k p l e R s m args below meth c D g ad adV cells slots Qs H locs ls2 C hret hP hS (hl.put (v := .int (x + Int32.ofInt n)) rfl h2)))
theorem aw_if_eq {x : Int32} {off : Int} {tgt : Nat} (hd : decode cc pc = .ok (.ifCond .eq off, 3)) (ht : (pc : Int) + off = (tgt : Int)) (kt : x = 0 → AW X own cc nL rt d Q tgt L st M) (kf : ¬ x = 0 → AW X own cc nL rt d Q (pc + 3) L st M) : AW X own cc nL rt d Q pc L (.int x :: st) M := by
  intro p l e R s m args below meth c D g ad adV cells slots Qs H locs ls C hret hP hS hl
  exact lv_if_eq C.1 C.2.1 hd ht (fun z => (kt z p l e R s m args below meth c D g ad adV cells slots Qs H locs ls C hret hP hS hl)) (fun z => (kf z p l e R s m args below meth c D g ad adV cells slots Qs H locs ls C hret hP hS hl))
theorem aw_if_ne {x : Int32} {off : Int} {tgt : Nat} (hd : decode cc pc = .ok (.ifCond .ne off, 3)) (ht : (pc : Int) + off = (tgt : Int)) (kt : ¬ x = 0 → AW X own cc nL rt d Q tgt L st M) (kf : x = 0 → AW X own cc nL rt d Q (pc + 3) L st M) : AW X own cc nL rt d Q pc L (.int x :: st) M := by
  intro p l e R s m args below meth c D g ad adV cells slots Qs H locs ls C hret hP hS hl
  exact lv_if_ne C.1 C.2.1 hd ht (fun z => (kt z p l e R s m args below meth c D g ad adV cells slots Qs H locs ls C hret hP hS hl)) (fun z => (kf z p l e R s m args below meth c D g ad adV cells slots Qs H locs ls C hret hP hS hl))
theorem aw_if_lt {x : Int32} {off : Int} {tgt : Nat} (hd : decode cc pc = .ok (.ifCond .lt off, 3)) (ht : (pc : Int) + off = (tgt : Int)) (kt : x < 0 → AW X own cc nL rt d Q tgt L st M) (kf : ¬ x < 0 → AW X own cc nL rt d Q (pc + 3) L st M) : AW X own cc nL rt d Q pc L (.int x :: st) M := by
  intro p l e R s m args below meth c D g ad adV cells slots Qs H locs ls C hret hP hS hl
  exact lv_if_lt C.1 C.2.1 hd ht (fun z => (kt z p l e R s m args below meth c D g ad adV cells slots Qs H locs ls C hret hP hS hl)) (fun z => (kf z p l e R s m args below meth c D g ad adV cells slots Qs H locs ls C hret hP hS hl))
theorem aw_if_ge {x : Int32} {off : Int} {tgt : Nat} (hd : decode cc pc = .ok (.ifCond .ge off, 3)) (ht : (pc : Int) + off = (tgt : Int)) (kt : 0 ≤ x → AW X own cc nL rt d Q tgt L st M) (kf : ¬ 0 ≤ x → AW X own cc nL rt d Q (pc + 3) L st M) : AW X own cc nL rt d Q pc L (.int x :: st) M := by
  intro p l e R s m args below meth c D g ad adV cells slots Qs H locs ls C hret hP hS hl
  exact lv_if_ge C.1 C.2.1 hd ht (fun z => (kt z p l e R s m args below meth c D g ad adV cells slots Qs H locs ls C hret hP hS hl)) (fun z => (kf z p l e R s m args below meth c D g ad adV cells slots Qs H locs ls C hret hP hS hl))
theorem aw_if_gt {x : Int32} {off : Int} {tgt : Nat} (hd : decode cc pc = .ok (.ifCond .gt off, 3)) (ht : (pc : Int) + off = (tgt : Int)) (kt : 0 < x → AW X own cc nL rt d Q tgt L st M) (kf : ¬ 0 < x → AW X own cc nL rt d Q (pc + 3) L st M) : AW X own cc nL rt d Q pc L (.int x :: st) M := by
  intro p l e R s m args below meth c D g ad adV cells slots Qs H locs ls C hret hP hS hl
  exact lv_if_gt C.1 C.2.1 hd ht (fun z => (kt z p l e R s m args below meth c D g ad adV cells slots Qs H locs ls C hret hP hS hl)) (fun z => (kf z p l e R s m args below meth c D g ad adV cells slots Qs H locs ls C hret hP hS hl))
theorem aw_if_le {x : Int32} {off : Int} {tgt : Nat} (hd : decode cc pc = .ok (.ifCond .le off, 3)) (ht : (pc : Int) + off = (tgt : Int)) (kt : x ≤ 0 → AW X own cc nL rt d Q tgt L st M) (kf : ¬ x ≤ 0 → AW X own cc nL rt d Q (pc + 3) L st M) : AW X own cc nL rt d Q pc L (.int x :: st) M := by
  intro p l e R s m args below meth c D g ad adV cells slots Qs H locs ls C hret hP hS hl
  exact lv_if_le C.1 C.2.1 hd ht (fun z => (kt z p l e R s m args below meth c D g ad adV cells slots Qs H locs ls C hret hP hS hl)) (fun z => (kf z p l e R s m args below meth c D g ad adV cells slots Qs H locs ls C hret hP hS hl))
theorem aw_icmp_eq {x y : Int32} {off : Int} {tgt : Nat} (hd : decode cc pc = .ok (.if_icmp .eq off, 3)) (ht : (pc : Int) + off = (tgt : Int)) (kt : x = y → AW X own cc nL rt d Q tgt L st M) (kf : ¬ x = y → AW X own cc nL rt d Q (pc + 3) L st M) : AW X own cc nL rt d Q pc L (.int y :: .int x :: st) M := by
  intro p l e R s m args below meth c D g ad adV cells slots Qs H locs ls C hret hP hS hl
  exact lv_icmp_eq C.1 C.2.1 hd ht (fun z => (kt z p l e R s m args below meth c D g ad adV cells slots Qs H locs ls C hret hP hS hl)) (fun z => (kf z p l e R s m args below meth c D g ad adV cells slots Qs H locs ls C hret hP hS hl))
theorem aw_icmp_ne {x y : Int32} {off : Int} {tgt : Nat} (hd : decode cc pc = .ok (.if_icmp .ne off, 3)) (ht : (pc : Int) + off = (tgt : Int)) (kt : ¬ x = y → AW X own cc nL rt d Q tgt L st M) (kf : x = y → AW X own cc nL rt d Q (pc + 3) L st M) : AW X own cc nL rt d Q pc L (.int y :: .int x :: st) M := by
  intro p l e R s m args below meth c D g ad adV cells slots Qs H locs ls C hret hP hS hl
  exact lv_icmp_ne C.1 C.2.1 hd ht (fun z => (kt z p l e R s m args below meth c D g ad adV cells slots Qs H locs ls C hret hP hS hl)) (fun z => (kf z p l e R s m args below meth c D g ad adV cells slots Qs H locs ls C hret hP hS hl))
theorem aw_icmp_lt {x y : Int32} {off : Int} {tgt : Nat} (hd : decode cc pc = .ok (.if_icmp .lt off, 3)) (ht : (pc : Int) + off = (tgt : Int)) (kt : x < y → AW X own cc nL rt d Q tgt L st M) (kf : ¬ x < y → AW X own cc nL rt d Q (pc + 3) L st M) : AW X own cc nL rt d Q pc L (.int y :: .int x :: st) M := by
  intro p l e R s m args below meth c D g ad adV cells slots Qs H locs ls C hret hP hS hl
  exact lv_icmp_lt C.1 C.2.1 hd ht (fun z => (kt z p l e R s m args below meth c D g ad adV cells slots Qs H locs ls C hret hP hS hl)) (fun z => (kf z p l e R s m args below meth c D g ad adV cells slots Qs H locs ls C hret hP hS hl))
theorem aw_icmp_ge {x y : Int32} {off : Int} {tgt : Nat} (hd : decode cc pc = .ok (.if_icmp .ge off, 3)) (ht : (pc : Int) + off = (tgt : Int)) (kt : y ≤ x → AW X own cc nL rt d Q tgt L st M) (kf : ¬ y ≤ x → AW X own cc nL rt d Q (pc + 3) L st M) : AW X own cc nL rt d Q pc L (.int y :: .int x :: st) M := by
  intro p l e R s m args below meth c D g ad adV cells slots Qs H locs ls C hret hP hS hl
  exact lv_icmp_ge C.1 C.2.1 hd ht (fun z => (kt z p l e R s m args below meth c D g ad adV cells slots Qs H locs ls C hret hP hS hl)) (fun z => (kf z p l e R s m args below meth c D g ad adV cells slots Qs H locs ls C hret hP hS hl))
theorem aw_icmp_gt {x y : Int32} {off : Int} {tgt : Nat} (hd : decode cc pc = .ok (.if_icmp .gt off, 3)) (ht : (pc : Int) + off = (tgt : Int)) (kt : y < x → AW X own cc nL rt d Q tgt L st M) (kf : ¬ y < x → AW X own cc nL rt d Q (pc + 3) L st M) : AW X own cc nL rt d Q pc L (.int y :: .int x :: st) M := by
  intro p l e R s m args below meth c D g ad adV cells slots Qs H locs ls C hret hP hS hl
  exact lv_icmp_gt C.1 C.2.1 hd ht (fun z => (kt z p l e R s m args below meth c D g ad adV cells slots Qs H locs ls C hret hP hS hl)) (fun z => (kf z p l e R s m args below meth c D g ad adV cells slots Qs H locs ls C hret hP hS hl))
theorem aw_icmp_le {x y : Int32} {off : Int} {tgt : Nat} (hd : decode cc pc = .ok (.if_icmp .le off, 3)) (ht : (pc : Int) + off = (tgt : Int)) (kt : x ≤ y → AW X own cc nL rt d Q tgt L st M) (kf : ¬ x ≤ y → AW X own cc nL rt d Q (pc + 3) L st M) : AW X own cc nL rt d Q pc L (.int y :: .int x :: st) M := by
  intro p l e R s m args below meth c D g ad adV cells slots Qs H locs ls C hret hP hS hl
  exact lv_icmp_le C.1 C.2.1 hd ht (fun z => (kt z p l e R s m args below meth c D g ad adV cells slots Qs H locs ls C hret hP hS hl)) (fun z => (kf z p l e R s m args below meth c D g ad adV cells slots Qs H locs ls C hret hP hS hl))
theorem aw_goto {off : Int} {tgt : Nat} (hd : decode cc pc = .ok (.goto off, 3)) (ht : (pc : Int) + off = (tgt : Int)) (k : AW X own cc nL rt d Q tgt L st M) : AW X own cc nL rt d Q pc L st M := by
  intro p l e R s m args below meth c D g ad adV cells slots Qs H locs ls C hret hP hS hl
  exact lv_goto C.1 C.2.1 hd ht (k p l e R s m args below meth c D g ad adV cells slots Qs H locs ls C hret hP hS hl)
theorem aw_tableIn {dflt lo hi : Int} {offs : Array Int} {len : Nat} {x : Int32} {off : Int} {tgt : Nat} (hd : decode cc pc = .ok (.tableswitch dflt lo hi offs, len)) (h1 : ¬ x.toInt < lo) (h2 : ¬ hi < x.toInt) (ho : offs[(x.toInt - lo).toNat]? = some off) (ht : (pc : Int) + off = (tgt : Int)) (k : AW X own cc nL rt d Q tgt L st M) : AW X own cc nL rt d Q pc L (.int x :: st) M := by
  intro p l e R s m args below meth c D g ad adV cells slots Qs H locs ls C hret hP hS hl
  exact lv_tableIn C.1 C.2.1 hd h1 h2 ho ht (k p l e R s m args below meth c D g ad adV cells slots Qs H locs ls C hret hP hS hl)
theorem aw_tableOut {dflt lo hi : Int} {offs : Array Int} {len : Nat} {x : Int32} {tgt : Nat} (hd : decode cc pc = .ok (.tableswitch dflt lo hi offs, len)) (h : x.toInt < lo ∨ hi < x.toInt) (ht : (pc : Int) + dflt = (tgt : Int)) (k : AW X own cc nL rt d Q tgt L st M) : AW X own cc nL rt d Q pc L (.int x :: st) M := by
  intro p l e R s m args below meth c D g ad adV cells slots Qs H locs ls C hret hP hS hl
  exact lv_tableOut C.1 C.2.1 hd h ht (k p l e R s m args below meth c D g ad adV cells slots Qs H locs ls C hret hP hS hl)
theorem aw_lookup {dflt : Int} {ps : Array (Int × Int)} {len : Nat} {x : Int32} {off : Int} {tgt : Nat} (hd : decode cc pc = .ok (.lookupswitch dflt ps, len)) (hp : (ps.toList.zip (ps.toList.drop 1)).all (fun (a, next) => a.1 < next.1) = true) (ho : Op.lookupswitch.offset ps.toList dflt x.toInt = off) (ht : (pc : Int) + off = (tgt : Int)) (k : AW X own cc nL rt d Q tgt L st M) : AW X own cc nL rt d Q pc L (.int x :: st) M := by
  intro p l e R s m args below meth c D g ad adV cells slots Qs H locs ls C hret hP hS hl
  exact lv_lookup C.1 C.2.1 hd hp ho ht (k p l e R s m args below meth c D g ad adV cells slots Qs H locs ls C hret hP hS hl)
theorem aw_less {L2 : List (Option Value)} (hs : ∀ (i : Nat) (v : Value), L2[i]? = some (some v) → L[i]? = some (some v)) (k : AW X own cc nL rt d Q pc L2 st M) : AW X own cc nL rt d Q pc L st M := by
  intro p l e R s m args below meth c D g ad adV cells slots Qs H locs ls C hret hP hS hl
  exact (k p l e R s m args below meth c D g ad adV cells slots Qs H locs ls C hret hP hS (hl.less hs))
theorem less_nil : ∀ (i : Nat) (v : Value), ([] : List (Option Value))[i]? = some (some v) → ([] : List (Option Value))[i]? = some (some v) := fun _ _ h => h
theorem less_k {L L2 : List (Option Value)} {a : Option Value} (h : ∀ (i : Nat) (v : Value), L2[i]? = some (some v) → L[i]? = some (some v)) : ∀ (i : Nat) (v : Value), (a :: L2)[i]? = some (some v) → (a :: L)[i]? = some (some v)
  | 0, _, hv => hv
  | i + 1, v, hv => h i v hv
theorem less_d {L L2 : List (Option Value)} {a : Option Value} (h : ∀ (i : Nat) (v : Value), L2[i]? = some (some v) → L[i]? = some (some v)) : ∀ (i : Nat) (v : Value), (none :: L2)[i]? = some (some v) → (a :: L)[i]? = some (some v)
  | 0, _, hv => by cases hv
  | i + 1, v, hv => h i v hv
abbrev ix (i : Int32) : Nat := i.toNatClampNeg
/-- a write -/
def wr (M : Mem) (k j : Nat) (x : Int32) : Mem := va_up M k (upd (M k) j x)
theorem entD_eq {g : G3} {ad : Nat → Nat} {M : Mem} {k : Nat} {c : CD} (h : cellD k = c) : entD g ad M k = entC g ad M k c := by rw [entD, h]
theorem aw_getf {idx ci j k0 : Nat} {sds : List SD} {sd : SD} (hd : decode cc pc = .ok (.getfield idx, 3)) (hf : FLk own idx ci j) (hk : k0 < K0) (hc : cellD k0 = .inl (ci, sds)) (hj : sds[j]? = some sd) {v : Value} (hv : avl M k0 j sd = v) (k : AW X own cc nL rt d Q (pc + 3) L (v :: st) M) : AW X own cc nL rt d Q pc L (.ref k0 :: st) M := by
  subst hv
  intro p l e R s m args below meth c D g ad adV cells slots Qs H locs ls C hret hP hS hl
  obtain ⟨C1, F, N, ty, ⟨c1, c2, c3, c4⟩, hN, hw, hs⟩ := hf
  have he : (wsD g ad M)[k0]? = some (ad k0, .inr (ci, sdL ad M k0 sds)) := by rw [wsD_at hk, entD_eq hc]; rfl
  have k2 := (k p l e R s m args below meth c D g ad adV cells slots Qs H locs ls C hret hP hS hl)
  rw [List.map_cons, cvv_avl] at k2
  exact va_get (C := C1) (T := F) (N := N) (ref := C1) C.1 C.2.1 C.2.2.2.2.1 c2 C.2.2.2.1 C.2.2.2.2.2.2.1.1 hP k0 he c1 j hN (C.2.2.2.2.1 _ hw) (fun x h => by rw [hs] at h; exact h) (sdL_at hj) hd k2
theorem aw_putf {idx ci j k0 : Nat} {sds : List SD} {ty : FieldType} {x : Int32} (hd : decode cc pc = .ok (.putfield idx, 3)) (hf : FPk own idx ci j ty) (hk : k0 < K0) (hc : cellD k0 = .inl (ci, sds)) (hj : sds[j]? = some (.inr false)) (hn : narrow ty (.int x) = .int x) (hfit : fits ty (.int x) = true) (k : AW X own cc nL rt d Q (pc + 3) L st (wr M k0 j x)) : AW X own cc nL rt d Q pc L (.int x :: .ref k0 :: st) M := by
  intro p l e R s m args below meth c D g ad adV cells slots Qs H locs ls C hret hP hS hl
  obtain ⟨C1, F, N, ty0, ⟨c1, c2, c3, c4⟩, hN, hw, hs, hfin, hty⟩ := hf
  have he : (wsD g ad M)[k0]? = some (ad k0, .inr (ci, sdL ad M k0 sds)) := by rw [wsD_at hk, entD_eq hc]; rfl
  have hset : (wsD g ad M).set k0 (ad k0, .inr (ci, (sdL ad M k0 sds).set j (.int x))) = wsD g ad (wr M k0 j x) := by
    refine wsD_set _ ?_
    rw [entD_eq hc]
    show Sum.inr _ = Sum.inr _
    have h1 : svl ad (va_up M k0 (upd (M k0) j x)) k0 j (.inr false) = .int x := by
      show Value.int ((if k0 = k0 then upd (M k0) j x else M k0) j) = Value.int x
      rw [if_pos rfl]
      show Value.int (if j = j then x else M k0 j) = Value.int x
      rw [if_pos rfl]
    have h2 := sdL_set (ad := ad) (M := M) (k := k0) (x := x) hj
    rw [h1] at h2
    rw [h2]
  refine va_put (C := C1) (T := F) (N := N) (ref := C1) (ty := ty) C.1 C.2.1 C.2.2.2.2.1 c2 ty0 c3 c4 C.2.2.2.1 C.2.2.2.2.2.2.1.1 hP (wsD_D C.2.2.2.2.2.2.1.2.1) hS k0 he c1 j hN (C.2.2.2.2.1 _ hw) (fun x h => by rw [hs] at h; exact h) hfin (by rw [c3 j hN, hty]) hn hfit (by rw [sdL_len]; exact (List.getElem?_eq_some_iff.mp hj).1) hd (fun H1 locs1 hP1 hD1 hS1 => ?_)
  have hP1 : va_P D vwCl (wsD g ad (wr M k0 j x)) H1 := by rw [← hset]; exact hP1
  exact (k p l e R s m args below meth c D g ad adV cells slots Qs H1 locs1 ls C hret hP1 hS1 hl)
theorem aw_putr {idx ci j k0 r : Nat} {sds : List SD} {ty : FieldType} (hd : decode cc pc = .ok (.putfield idx, 3)) (hf : FPk own idx ci j ty) (hk : k0 < K0) (hc : cellD k0 = .inl (ci, sds)) (hj : sds[j]? = some (.inr true)) (hr : r < 2 ^ 31) (hn : ∀ a, narrow ty (.ref a) = .ref a) (hfit : ∀ a, fits ty (.ref a) = true) (k : AW X own cc nL rt d Q (pc + 3) L st (wr M k0 j (nI r))) : AW X own cc nL rt d Q pc L (.ref r :: .ref k0 :: st) M := by
  intro p l e R s m args below meth c D g ad adV cells slots Qs H locs ls C hret hP hS hl
  obtain ⟨C1, F, N, ty0, ⟨c1, c2, c3, c4⟩, hN, hw, hs, hfin, hty⟩ := hf
  have he : (wsD g ad M)[k0]? = some (ad k0, .inr (ci, sdL ad M k0 sds)) := by rw [wsD_at hk, entD_eq hc]; rfl
  have hset : (wsD g ad M).set k0 (ad k0, .inr (ci, (sdL ad M k0 sds).set j (.ref (ad r)))) = wsD g ad (wr M k0 j (nI r)) := by
    refine wsD_set _ ?_
    rw [entD_eq hc]
    show Sum.inr _ = Sum.inr _
    have h1 : svl ad (va_up M k0 (upd (M k0) j (nI r))) k0 j (.inr true) = .ref (ad r) := by
      show Value.ref (ad ((if k0 = k0 then upd (M k0) j (nI r) else M k0) j).toNatClampNeg) = Value.ref (ad r)
      rw [if_pos rfl]
      show Value.ref (ad (if j = j then nI r else M k0 j).toNatClampNeg) = Value.ref (ad r)
      rw [if_pos rfl, nI_clamp hr]
    have h2 := sdL_set (ad := ad) (M := M) (k := k0) (x := nI r) hj
    rw [h1] at h2
    rw [h2]
  refine va_put (C := C1) (T := F) (N := N) (ref := C1) (ty := ty) C.1 C.2.1 C.2.2.2.2.1 c2 ty0 c3 c4 C.2.2.2.1 C.2.2.2.2.2.2.1.1 hP (wsD_D C.2.2.2.2.2.2.1.2.1) hS k0 he c1 j hN (C.2.2.2.2.1 _ hw) (fun x h => by rw [hs] at h; exact h) hfin (by rw [c3 j hN, hty]) (hn _) (hfit _) (by rw [sdL_len]; exact (List.getElem?_eq_some_iff.mp hj).1) hd (fun H1 locs1 hP1 hD1 hS1 => ?_)
  have hP1 : va_P D vwCl (wsD g ad (wr M k0 j (nI r))) H1 := by rw [← hset]; exact hP1
  exact (k p l e R s m args below meth c D g ad adV cells slots Qs H1 locs1 ls C hret hP1 hS1 hl)
theorem aw_iald {k0 n : Nat} {i : Int32} (hd : decode cc pc = .ok (.iaload, 1)) (hk : k0 < K0) (hc : cellD k0 = .inr (.inl (false, n))) (hin : vp_in i n) (k : AW X own cc nL rt d Q (pc + 1) L (.int (M k0 (ix i)) :: st) M) : AW X own cc nL rt d Q pc L (.int i :: .ref k0 :: st) M := by
  intro p l e R s m args below meth c D g ad adV cells slots Qs H locs ls C hret hP hS hl
  have he : (wsD g ad M)[k0]? = some (ad k0, .inl (g.1, n, .inl (M k0))) := by rw [wsD_at hk, entD_eq hc]; rfl
  exact va_iald C.1 C.2.1 C.2.2.2.2.2.2.1.1 hP k0 0 he rfl hin hd (k p l e R s m args below meth c D g ad adV cells slots Qs H locs ls C hret hP hS hl)
theorem aw_bald {k0 n : Nat} {i : Int32} (hd : decode cc pc = .ok (.baload, 1)) (hk : k0 < K0) (hc : cellD k0 = .inr (.inl (true, n))) (hin : vp_in i n) (k : AW X own cc nL rt d Q (pc + 1) L (.int (M k0 (ix i)) :: st) M) : AW X own cc nL rt d Q pc L (.int i :: .ref k0 :: st) M := by
  intro p l e R s m args below meth c D g ad adV cells slots Qs H locs ls C hret hP hS hl
  have he : (wsD g ad M)[k0]? = some (ad k0, .inl (g.2.1, n, .inl (M k0))) := by rw [wsD_at hk, entD_eq hc]; rfl
  exact va_bald C.1 C.2.1 C.2.2.2.2.2.2.1.1 hP k0 1 he rfl hin hd (k p l e R s m args below meth c D g ad adV cells slots Qs H locs ls C hret hP hS hl)
theorem aw_iast {k0 n : Nat} {i x : Int32} (hd : decode cc pc = .ok (.iastore, 1)) (hk : k0 < K0) (hc : cellD k0 = .inr (.inl (false, n))) (hin : vp_in i n) (k : AW X own cc nL rt d Q (pc + 1) L st (wr M k0 (ix i) x)) : AW X own cc nL rt d Q pc L (.int x :: .int i :: .ref k0 :: st) M := by
  intro p l e R s m args below meth c D g ad adV cells slots Qs H locs ls C hret hP hS hl
  have he : (wsD g ad M)[k0]? = some (ad k0, .inl (g.1, n, .inl (M k0))) := by rw [wsD_at hk, entD_eq hc]; rfl
  have hset : (wsD g ad M).set k0 (ad k0, .inl (g.1, n, .inl (upd (M k0) i.toNatClampNeg x))) = wsD g ad (wr M k0 (ix i) x) := by
    refine wsD_set _ ?_
    rw [entD_eq hc]
    show Sum.inl (g.1, n, _) = Sum.inl (g.1, n, Sum.inl (if k0 = k0 then upd (M k0) (ix i) x else M k0))
    rw [if_pos rfl]
  refine va_iast C.1 C.2.1 C.2.2.2.2.2.2.1.1 hP (wsD_D C.2.2.2.2.2.2.1.2.1) hS k0 0 he rfl hin hd (fun H1 locs1 hP1 hD1 hS1 => ?_)
  rw [hset] at hP1
  exact (k p l e R s m args below meth c D g ad adV cells slots Qs H1 locs1 ls C hret hP1 hS1 hl)
theorem aw_bast {k0 n : Nat} {i x : Int32} (hd : decode cc pc = .ok (.bastore, 1)) (hk : k0 < K0) (hc : cellD k0 = .inr (.inl (true, n))) (hin : vp_in i n) (k : AW X own cc nL rt d Q (pc + 1) L st (wr M k0 (ix i) (vp_nar .byte x))) : AW X own cc nL rt d Q pc L (.int x :: .int i :: .ref k0 :: st) M := by
  intro p l e R s m args below meth c D g ad adV cells slots Qs H locs ls C hret hP hS hl
  have he : (wsD g ad M)[k0]? = some (ad k0, .inl (g.2.1, n, .inl (M k0))) := by rw [wsD_at hk, entD_eq hc]; rfl
  have hset : (wsD g ad M).set k0 (ad k0, .inl (g.2.1, n, .inl (upd (M k0) i.toNatClampNeg (vp_nar .byte x)))) = wsD g ad (wr M k0 (ix i) (vp_nar .byte x)) := by
    refine wsD_set _ ?_
    rw [entD_eq hc]
    show Sum.inl (g.2.1, n, _) = Sum.inl (g.2.1, n, Sum.inl (if k0 = k0 then upd (M k0) (ix i) (vp_nar .byte x) else M k0))
    rw [if_pos rfl]
  refine va_bast C.1 C.2.1 C.2.2.2.2.2.2.1.1 hP (wsD_D C.2.2.2.2.2.2.1.2.1) hS k0 1 he rfl hin hd (fun H1 locs1 hP1 hD1 hS1 => ?_)
  rw [hset] at hP1
  exact (k p l e R s m args below meth c D g ad adV cells slots Qs H1 locs1 ls C hret hP1 hS1 hl)
theorem aw_aald {k0 r : Nat} {rs : List Nat} {i : Int32} (hd : decode cc pc = .ok (.aaload, 1)) (hk : k0 < K0) (hc : cellD k0 = .inr (.inr rs)) (hin : vp_in i rs.length) (hr : rs[ix i]? = some r) (k : AW X own cc nL rt d Q (pc + 1) L (.ref r :: st) M) : AW X own cc nL rt d Q pc L (.int i :: .ref k0 :: st) M := by
  intro p l e R s m args below meth c D g ad adV cells slots Qs H locs ls C hret hP hS hl
  have he : (wsD g ad M)[k0]? = some (ad k0, .inl (g.2.2, rs.length, .inr (.inr (.inr (.inr (fun i => (rs[i]?).map ad)))))) := by rw [wsD_at hk, entD_eq hc]; rfl
  refine va_aldq C.1 C.2.1 C.2.2.2.2.2.2.1.1 hP k0 2 he rfl hin hd ?_
  have h1 : va_rf ((fun i => (rs[i]?).map ad) i.toNatClampNeg) = .ref (ad r) := by
    show va_rf ((rs[ix i]?).map ad) = _
    rw [hr]; rfl
  rw [h1]
  exact (k p l e R s m args below meth c D g ad adV cells slots Qs H locs ls C hret hP hS hl)
/-- the script -/
theorem aw_sld {N : Nat} {xs : Nat → Int32} {i : Int32} (hX : X = some (N, xs)) (hd : decode cc pc = .ok (.iaload, 1)) (hin : vp_in i N) (k : AW X own cc nL rt d Q (pc + 1) L (.int (xs (ix i)) :: st) M) : AW X own cc nL rt d Q pc L (.int i :: .ref 3000 :: st) M := by
  intro p l e R s m args below meth c D g ad adV cells slots Qs H locs ls C hret hP hS hl
  obtain ⟨x1, x2, x3⟩ := C.2.2.2.2.2.2.2.2 N xs hX
  exact va_sld C.1 C.2.1 x1 x2 x3 hS hin hd (k p l e R s m args below meth c D g ad adV cells slots Qs H locs ls C hret hP hS hl)
theorem aw_slen {N : Nat} {xs : Nat → Int32} (hX : X = some (N, xs)) (hd : decode cc pc = .ok (.arraylength, 1)) (k : AW X own cc nL rt d Q (pc + 1) L (.int (nI N) :: st) M) : AW X own cc nL rt d Q pc L (.ref 3000 :: st) M := by
  intro p l e R s m args below meth c D g ad adV cells slots Qs H locs ls C hret hP hS hl
  obtain ⟨x1, x2, x3⟩ := C.2.2.2.2.2.2.2.2 N xs hX
  exact va_slen C.1 C.2.1 x1 x2 x3 hS hd (k p l e R s m args below meth c D g ad adV cells slots Qs H locs ls C hret hP hS hl)
theorem aw_iret {v : Int32} {ty : FieldType} (hd : decode cc pc = .ok (.ireturn, 1)) (hrt : rt = some ty) (hn : narrow ty (.int v) = .int v) (h : Q (some v) M) : AW X own cc nL rt d Q pc L [.int v] M := by
  intro p l e R s m args below meth c D g ad adV cells slots Qs H locs ls C hret hP hS hl
  exact hret (some v) M H locs pc ls h ⟨hd, ty, hrt, hn⟩ hP hS
theorem aw_vret (hd : decode cc pc = .ok (.return_, 1)) (hrt : rt = none) (h : Q none M) : AW X own cc nL rt d Q pc L [] M := by
  intro p l e R s m args below meth c D g ad adV cells slots Qs H locs ls C hret hP hS hl
  exact hret none M H locs pc ls h ⟨hd, hrt⟩ hP hS
theorem cat_sum (ad : Nat → Nat) (st : List Value) : ((st.map (cvv ad)).map fun v => v.category).sum = (st.map fun v => v.category).sum := by
  rw [List.map_map]
  congr 1
  apply List.map_congr_left
  intro v _
  exact cvv_cat v
theorem tt_ws {args : Array Value} {s : State} {mi : MI} (hts : ∀ w ∈ TT, w.before args s = true) (hc : Cond.code mi.1 mi.2.1 mi.2.2.1 mi.2.2.2 ∈ TT) : ∀ w ∈ (Cond.code mi.1 mi.2.1 mi.2.2.1 mi.2.2.2 :: TT), ∀ (a' : Array Value) (U : State), s.WarmedH U.vm → w.before a' U = true := by
  intro w hw a' U hW
  have hw2 : w ∈ TT := by
    rcases List.mem_cons.mp hw with rfl | h
    · exact hc
    · exact h
  exact word_at hW (good_of_word (tt_good hw2)) (hts w hw2)
theorem am_blind {D : va_G} {g : G3} {ad adV : Nat → Nat} {av : List Value} {M : Mem} : FrameBlind (va_Pc (av.map (cvv ad)) (fun U => STc D g ad adV U ∧ va_P D vwCl (wsD g ad M) U.heap)) := by
  intro a U f mk h
  exact ⟨h.1, h.2.1.call f mk a, h.2.2⟩
theorem am_cont {p : Program} {l : Launch} {e : Env} {R : Room} {s : State} {m : MethodId} {args : Array Value} {below : List Frame} {meth : Method} {c : Code} {H : Heap} {locs : List Loc} {cells slots : Nat} {Qs : State → Prop} {D : va_G} {g : G3} {ad : Nat → Nat} {Q : Option Int32 → Mem → Prop} {a : Array Value} {pc : Nat} {ls : Array Slot} {st0 rest : List Value}
    (hr : va_Run p l e R s m args below meth c H locs cells slots 0 0 (F0 m pc ls st0) rest (QM D g ad Q a) (AD ad)) (hS : va_S (AD ad) s.heap H locs)
    (kk : ∀ (r : Option Int32) (M' : Mem) (H1 : Heap) (locs1 : List Loc), Q r M' → va_P D vwCl (wsD g ad M') H1 → va_S (AD ad) s.heap H1 locs1 → W p l e R s m args below meth c H1 locs1 cells slots Qs (F0 m (pc + 3) ls (rst r ++ rest))) : W p l e R s m args below meth c H locs cells slots Qs (F0 m pc ls st0) := by
  intro T hT X
  obtain ⟨v, st₀, t, T', L, h0, X', hL, e1, e2, ⟨⟨r, M', hv, hq, hp⟩, hz, hk⟩, st⟩ := hr T hT X
  cases hv
  rw [h0] at hz hk
  obtain ⟨t2, a1, b1⟩ := kk r M' T'.heap (locs ++ L) hq (by rw [e1]; exact hp)
    ⟨Nat.le_trans hS.1 (by rw [e1]; exact hz), fun q h1 h2 => by rw [e1, hk q (Nat.lt_of_lt_of_le h1 hS.1) h2]; exact hS.2.1 q h1 h2, fun q hq => by
      rcases List.mem_append.mp hq with h | h
      · exact hS.2.2 q h
      · exact hL q h⟩ T' rfl X'
  exact ⟨t2, st t2 a1, b1⟩
theorem rst_map (ad : Nat → Nat) (r : Option Int32) (st : List Value) : (rst r ++ st).map (cvv ad) = rst r ++ st.map (cvv ad) := by cases r <;> rfl
theorem aw_callS {mi : MI} {n idx : Nat} {av st0 : List Value} (hd : decode cc pc = .ok (.invokestatic idx, 3)) (hw : Cond.methodLink own idx mi.1 ∈ TT) (ho : MSk mi n) (hn : av.length = n) (hst : av.reverse ++ st = st0) (hc8 : (st.map fun v => v.category).sum ≤ 8) (h : AM d mi av M (fun r M' => AW X own cc nL rt (d + 1) Q (pc + 3) L (rst r ++ st) M')) : AW X own cc nL rt (d + 1) Q pc L st0 M := by
  subst hst
  intro p l e R s m args below meth c D g ad adV cells slots Qs H locs ls C hret hP hS hl
  obtain ⟨hx, hb, hml, hown, hts, hrt, hST, ⟨r1, r2, r3, r4⟩, hX⟩ := id C
  obtain ⟨⟨i1, i2, ⟨i3, i4, i5⟩, i6, i7⟩, i8⟩ := ho
  have hrun := va_runS (p := p) (l := l) (e := e) (R := R) (s := s) (m := m) (args := args) (below := below) (meth := meth) (c := c) (H := H) (locs := locs) (cells := cells) (slots := slots) (g := F0 m pc ls ((av.reverse ++ st).map (cvv ad))) (As := av.map (cvv ad)) (rest := st.map (cvv ad)) (n := n) (y := mi.1) (bytes := mi.2.1) (maxL := mi.2.2.1) (ret := mi.2.2.2) ⟨hx, hb, hml, hown, hts⟩ (h l D g ad adV) ⟨⟨rfl, rfl, (show d + 1 ≤ R.frames by omega), (show 8 + (mi.2.2.1 + 11) + 64 * d ≤ R.locals by omega), tt_ws hts i2, List.mem_cons_self, hts _ i2, hts _ i1, ⟨i3, i4⟩, (fun sig h => by rw [h] at i5; exact (Option.some.inj i5).symm), hts _ hw⟩, hts _ i8⟩ ⟨am_blind, fun U hU hW => ⟨rfl, hST.go hS hU hW, by rw [hU]; exact hP⟩⟩ rfl (by rw [List.length_map]; exact hn) hl.1 (by show (av.reverse ++ st).map (cvv ad) = _; rw [List.map_append, List.map_reverse]) (lv_room (by rw [cat_sum]; exact hc8)) hd ⟨r3, r4⟩
  refine am_cont hrun hS (fun r M2 H1 locs1 hq hP1 hS1 => ?_)
  have k2 := hq p l e R s m args below meth c D g ad adV cells slots Qs H1 locs1 ls C hret hP1 hS1 hl
  rw [rst_map] at k2
  exact k2
theorem aw_callN {mi : MI} {n idx : Nat} {host : String} {av st0 : List Value} (hd : decode cc pc = .ok (.invokestatic idx, 3)) (hw : (own, idx, mi.1, host) ∈ nestW) (ho : MSk mi n) (hn : av.length = n) (hst : av.reverse ++ st = st0) (hc8 : (st.map fun v => v.category).sum ≤ 8) (h : AM d mi av M (fun r M' => AW X own cc nL rt (d + 1) Q (pc + 3) L (rst r ++ st) M')) : AW X own cc nL rt (d + 1) Q pc L st0 M := by
  subst hst
  intro p l e R s m args below meth c D g ad adV cells slots Qs H locs ls C hret hP hS hl
  obtain ⟨hx, hb, hml, hown, hts, hrt, hST, ⟨r1, r2, r3, r4⟩, hX⟩ := id C
  obtain ⟨⟨i1, i2, ⟨i3, i4, i5⟩, i6, i7⟩, i8⟩ := ho
  have hrun := va_runSN (p := p) (l := l) (e := e) (R := R) (s := s) (m := m) (args := args) (below := below) (meth := meth) (c := c) (H := H) (locs := locs) (cells := cells) (slots := slots) (g := F0 m pc ls ((av.reverse ++ st).map (cvv ad))) (As := av.map (cvv ad)) (rest := st.map (cvv ad)) (n := n) (y := mi.1) (host := host) (bytes := mi.2.1) (maxL := mi.2.2.1) (ret := mi.2.2.2) ⟨hx, hb, hml, hown, hts⟩ (h l D g ad adV) ⟨⟨⟨rfl, rfl, (show d + 1 ≤ R.frames by omega), (show 8 + (mi.2.2.1 + 11) + 64 * d ≤ R.locals by omega), tt_ws hts i2, List.mem_cons_self⟩, hts _ i2, hts _ i1, ⟨i3, i4⟩, (fun sig h => by rw [h] at i5; exact (Option.some.inj i5).symm), va_Nw.use rfl (hST.2.2.1 _ hw)⟩, hts _ i8, trivial⟩ ⟨am_blind, fun U hU hW => ⟨rfl, hST.go hS hU hW, by rw [hU]; exact hP⟩⟩ rfl (by rw [List.length_map]; exact hn) hl.1 (by show (av.reverse ++ st).map (cvv ad) = _; rw [List.map_append, List.map_reverse]) (lv_room (by rw [cat_sum]; exact hc8)) hd ⟨r3, r4⟩
  refine am_cont hrun hS (fun r M2 H1 locs1 hq hP1 hS1 => ?_)
  have k2 := hq p l e R s m args below meth c D g ad adV cells slots Qs H1 locs1 ls C hret hP1 hS1 hl
  rw [rst_map] at k2
  exact k2
theorem aw_callV {mi : MI} {n idx k0 ci : Nat} {sds : List SD} {C1 : String} {F : u_T} {N : Nat} {ty : Nat → FieldType} {av st0 : List Value} (hd : decode cc pc = .ok (.invokevirtual idx, 3)) (hw : Cond.methodLink own idx mi.1 ∈ TT) (ho : MVk mi n) (hk : k0 < K0) (hcell : cellD k0 = .inl (ci, sds)) (hcl : CLk ci C1 F N ty) (hC1 : mi.1.cls = C1) (hn : av.length = n) (hst : av.reverse ++ .ref k0 :: st = st0) (hc8 : (st.map fun v => v.category).sum ≤ 8) (h : AM d mi (.ref k0 :: av) M (fun r M' => AW X own cc nL rt (d + 1) Q (pc + 3) L (rst r ++ st) M')) : AW X own cc nL rt (d + 1) Q pc L st0 M := by
  subst hst
  intro p l e R s m args below meth c D g ad adV cells slots Qs H locs ls C hret hP hS hl
  obtain ⟨hx, hb, hml, hown, hts, hrt, hST, ⟨r1, r2, r3, r4⟩, hX⟩ := id C
  obtain ⟨⟨i1, i2, ⟨i3, i4, i5⟩, i6, i7⟩, i8⟩ := ho
  have he : (wsD g ad M)[k0]? = some (ad k0, .inr (ci, sdL ad M k0 sds)) := by rw [wsD_at hk, entD_eq hcell]; rfl
  have hrun := va_runV (p := p) (l := l) (e := e) (R := R) (s := s) (m := m) (args := args) (below := below) (meth := meth) (c := c) (H := H) (locs := locs) (cells := cells) (slots := slots) (g := F0 m pc ls ((av.reverse ++ .ref k0 :: st).map (cvv ad))) (As := av.map (cvv ad)) (rest := st.map (cvv ad)) (n := n) (y := mi.1) (C := mi.1.cls) (b := ad k0) (bytes := mi.2.1) (maxL := mi.2.2.1) (ret := mi.2.2.2) ⟨hx, hb, hml, hown, hts⟩ (h l D g ad adV) ⟨⟨rfl, rfl, (show d + 1 ≤ R.frames by omega), (show 8 + (mi.2.2.1 + 11) + 64 * d ≤ R.locals by omega), tt_ws hts i2, List.mem_cons_self, hts _ i2, hts _ i1, ⟨i3, i4⟩, (fun sig h => by rw [h] at i5; exact (Option.some.inj i5).symm), hts _ hw⟩, hts _ i8.1, hts _ i8.2⟩ ⟨am_blind, by rw [hC1]; exact va_recv hST.1 hP hcl.1 he, fun U hU hW => ⟨rfl, hST.go hS hU hW, by rw [hU]; exact hP⟩⟩ rfl (by rw [List.length_map]; exact hn) hl.1 (by show (av.reverse ++ .ref k0 :: st).map (cvv ad) = _; rw [List.map_append, List.map_reverse]; rfl) (lv_room (by rw [cat_sum]; exact hc8)) hd ⟨r3, r4⟩
  refine am_cont hrun hS (fun r M2 H1 locs1 hq hP1 hS1 => ?_)
  have k2 := hq p l e R s m args below meth c D g ad adV cells slots Qs H1 locs1 ls C hret hP1 hS1 hl
  rw [rst_map] at k2
  exact k2
theorem aw_mmin {idx : Nat} {x y : Int32} (hd : decode cc pc = .ok (.invokestatic idx, 3)) (hw : Cond.methodLink own idx Lib.Math.min.name ∈ TT) (h1 : Cond.static Lib.Math.min.name ∈ TT) (h2 : Cond.initialized "java/lang/Math" ∈ TT) (h3 : Cond.code Lib.Math.min.name Lib.Math.min.code 2 (some .int) ∈ TT) (hc8 : (st.map fun v => v.category).sum ≤ 8) (k : AW X own cc nL rt (d + 1) Q (pc + 3) L (.int (if y < x then y else x) :: st) M) : AW X own cc nL rt (d + 1) Q pc L (.int y :: .int x :: st) M := by
  intro p l e R s m args below meth c D g ad adV cells slots Qs H locs ls C hret hP hS hl
  obtain ⟨r1, r2, r3, r4⟩ := C.2.2.2.2.2.2.2.1
  exact va_mmin C.1 C.2.1 (C.2.2.1.trans hl.1.symm) C.2.2.2.1 (C.2.2.2.2.1 _ hw) (C.2.2.2.2.1 _ h1) (C.2.2.2.2.1 _ h2) (C.2.2.2.2.1 _ h3) (by omega) (by rw [cat_sum]; omega) r3 r4 hd (k p l e R s m args below meth c D g ad adV cells slots Qs H locs ls C hret hP hS hl)
theorem aw_mmax {idx : Nat} {x y : Int32} (hd : decode cc pc = .ok (.invokestatic idx, 3)) (hw : Cond.methodLink own idx Lib.Math.max.name ∈ TT) (h1 : Cond.static Lib.Math.max.name ∈ TT) (h2 : Cond.initialized "java/lang/Math" ∈ TT) (h3 : Cond.code Lib.Math.max.name Lib.Math.max.code 2 (some .int) ∈ TT) (hc8 : (st.map fun v => v.category).sum ≤ 8) (k : ∀ z : Int32, z = (if x < y then y else x) → AW X own cc nL rt (d + 1) Q (pc + 3) L (.int z :: st) M) : AW X own cc nL rt (d + 1) Q pc L (.int y :: .int x :: st) M := by
  intro p l e R s m args below meth c D g ad adV cells slots Qs H locs ls C hret hP hS hl
  obtain ⟨r1, r2, r3, r4⟩ := C.2.2.2.2.2.2.2.1
  exact va_mmax C.1 C.2.1 (C.2.2.1.trans hl.1.symm) C.2.2.2.1 (C.2.2.2.2.1 _ hw) (C.2.2.2.2.1 _ h1) (C.2.2.2.2.1 _ h2) (C.2.2.2.2.1 _ h3) (by omega) (by rw [cat_sum]; omega) r3 r4 hd (k _ rfl p l e R s m args below meth c D g ad adV cells slots Qs H locs ls C hret hP hS hl)
theorem aw_copy {idx k0 k1 n0 n1 : Nat} {sp dp n : Int32} (hd : decode cc pc = .ok (.invokestatic idx, 3)) (hw : Cond.methodLink own idx arraycopyName ∈ TT) (h1 : Cond.native arraycopyName ∈ TT) (h2 : Cond.static arraycopyName ∈ TT) (h3 : Cond.initialized "java/lang/System" ∈ TT) (hk0 : k0 < K0) (hc0 : cellD k0 = .inr (.inl (false, n0))) (hk1 : k1 < K0) (hc1 : cellD k1 = .inr (.inl (false, n1))) (g1 : ¬ sp < 0) (g2 : ¬ dp < 0) (g3 : ¬ n < 0) (g4 : ix sp + ix n ≤ n0) (g5 : ix dp + ix n ≤ n1) (hc8 : (st.map fun v => v.category).sum ≤ 8) (k : AW X own cc nL rt (d + 1) Q (pc + 3) L st (va_up M k1 (va_cpy (M k0) (M k1) (ix sp) (ix dp) (ix n)))) : AW X own cc nL rt (d + 1) Q pc L (.int n :: .int dp :: .ref k1 :: .int sp :: .ref k0 :: st) M := by
  intro p l e R s m args below meth c D g ad adV cells slots Qs H locs ls C hret hP hS hl
  obtain ⟨r1, r2, r3, r4⟩ := C.2.2.2.2.2.2.2.1
  have he0 : (wsD g ad M)[k0]? = some (ad k0, .inl (g.1, n0, .inl (M k0))) := by rw [wsD_at hk0, entD_eq hc0]; rfl
  have he1 : (wsD g ad M)[k1]? = some (ad k1, .inl (g.1, n1, .inl (M k1))) := by rw [wsD_at hk1, entD_eq hc1]; rfl
  have hset : (wsD g ad M).set k1 (ad k1, .inl (g.1, n1, .inl (va_cpy (M k0) (M k1) sp.toNatClampNeg dp.toNatClampNeg n.toNatClampNeg))) = wsD g ad (va_up M k1 (va_cpy (M k0) (M k1) (ix sp) (ix dp) (ix n))) := by
    refine wsD_set _ ?_
    rw [entD_eq hc1]
    show Sum.inl (g.1, n1, _) = Sum.inl (g.1, n1, Sum.inl (if k1 = k1 then va_cpy (M k0) (M k1) (ix sp) (ix dp) (ix n) else M k1))
    rw [if_pos rfl]
  refine va_copyi C.1 C.2.1 (C.2.2.1.trans hl.1.symm) C.2.2.2.1 (C.2.2.2.2.1 _ hw) (C.2.2.2.2.1 _ h1) (C.2.2.2.2.1 _ h2) (C.2.2.2.2.1 _ h3) C.2.2.2.2.2.2.1.1 hP (wsD_D C.2.2.2.2.2.2.1.2.1) hS k0 k1 0 0 he0 he1 rfl rfl rfl g1 g2 g3 g4 g5 (fun i _ => rfl) (by omega) (by rw [cat_sum]; have e : nativeFrameWords "java/lang/System" "arraycopy" 5 + 11 ≤ 50 := (by decide); omega) hd (fun H1 locs1 hP1 hD1 hS1 => ?_)
  rw [hset] at hP1
  exact (k p l e R s m args below meth c D g ad adV cells slots Qs H1 locs1 ls C hret hP1 hS1 hl)
end AMR
