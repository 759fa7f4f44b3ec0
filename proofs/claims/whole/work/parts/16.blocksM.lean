abbrev AX10_person (d : Nat) (Q : Option Int32 → Mem → Prop) (pc : Nat) (L : List (Option Value)) (st : List Value) (M : Mem) : Prop := AW none RX10 cX10_person 5 (some .int) d Q pc L st M
theorem eX10_person {d : Nat} {Q : Option Int32 → Mem → Prop} (M : Mem) (x1 x2 x3 x4 : Int32) (h : AX10_person d Q 0 [lR 77, lI x1, lI x2, lI x3, lI x4] [] M) : AM d iX10_person [.ref 77, .int x1, .int x2, .int x3, .int x4] M Q := AM.of2 (by decide) rfl rfl h
theorem bX10_person_0 {d : Nat} {Q : Option Int32 → Mem → Prop} (M : Mem) (x1 x2 x3 x4 : Int32) (h : ((inV x1 0 4) = 0 → Q (some (-1)) M) ∧ (¬ (inV x1 0 4) = 0 → ((inV x2 1 99) = 0 → Q (some (-1)) M) ∧ (¬ (inV x2 1 99) = 0 → ((inV x3 0 99) = 0 → Q (some (-1)) M) ∧ (¬ (inV x3 0 99) = 0 → ((inV x4 0 999) = 0 → Q (some (-1)) M) ∧ (¬ (inV x4 0 999) = 0 → (¬ (M 77 0) = 16 → (vp_in (M 77 0) 16) ∧ ((vp_in (M 77 0) 16) ∧ ((vp_in (M 77 0) 16) ∧ ((vp_in (M 77 0) 16) ∧ ((vp_in (M 77 0) 16) ∧ (Q (some ((((M 77 0) + 1)) - 1)) (wr (wr (wr (wr (wr (wr (wr M 78 (ix (M 77 0)) x1) 79 (ix (M 77 0)) x2) 80 (ix (M 77 0)) x3) 81 (ix (M 77 0)) 0) 82 (ix (M 77 0)) x4) 77 1 ((M 77 1) ||| ((1 : Int32) <<< ((M 77 0) &&& 31)))) 77 0 ((M 77 0) + 1)))))))) ∧ ((M 77 0) = 16 → Q (some (-1)) M)))))) : AX10_person (d + 1) Q 0 [lR 77, lI x1, lI x2, lI x3, lI x4] [] M := by
  refine aw_iload_n dX10_person_0 rfl rfl ?_
  refine aw_iconst (v := 0) dX10_person_1 (by decide) ?_
  refine aw_iconst (v := 4) dX10_person_2 (by decide) ?_
  refine aw_callS (mi := iX10_in) (av := [.int x1, .int 0, .int 4]) (st := []) dX10_person_3 ml_X10_152 kX10_in rfl rfl (Nat.le_of_ble_eq_true rfl) (AM.mono (p_X10_in _ _ _) (fun r9 M9 e9 => ?_))
  obtain ⟨rfl, rfl⟩ := e9
  refine aw_if_eq (tgt := 50) dX10_person_6 (by decide) (fun z => ?_) (fun z => ?_)
  · replace h := h.1 z
    refine aw_iconst (v := (-1)) dX10_person_50 (by decide) ?_
    exact aw_iret dX10_person_51 rfl rfl h
  · replace h := h.2 z
    refine aw_iload_n dX10_person_9 rfl rfl ?_
    refine aw_iconst (v := 1) dX10_person_10 (by decide) ?_
    refine aw_bipush (v := 99) dX10_person_11 (by decide) ?_
    refine aw_callS (mi := iX10_in) (av := [.int x2, .int 1, .int 99]) (st := []) dX10_person_13 ml_X10_152 kX10_in rfl rfl (Nat.le_of_ble_eq_true rfl) (AM.mono (p_X10_in _ _ _) (fun r9 M9 e9 => ?_))
    obtain ⟨rfl, rfl⟩ := e9
    refine aw_if_eq (tgt := 50) dX10_person_16 (by decide) (fun z => ?_) (fun z => ?_)
    · replace h := h.1 z
      refine aw_iconst (v := (-1)) dX10_person_50 (by decide) ?_
      exact aw_iret dX10_person_51 rfl rfl h
    · replace h := h.2 z
      refine aw_iload_n dX10_person_19 rfl rfl ?_
      refine aw_iconst (v := 0) dX10_person_20 (by decide) ?_
      refine aw_bipush (v := 99) dX10_person_21 (by decide) ?_
      refine aw_callS (mi := iX10_in) (av := [.int x3, .int 0, .int 99]) (st := []) dX10_person_23 ml_X10_152 kX10_in rfl rfl (Nat.le_of_ble_eq_true rfl) (AM.mono (p_X10_in _ _ _) (fun r9 M9 e9 => ?_))
      obtain ⟨rfl, rfl⟩ := e9
      refine aw_if_eq (tgt := 50) dX10_person_26 (by decide) (fun z => ?_) (fun z => ?_)
      · replace h := h.1 z
        refine aw_iconst (v := (-1)) dX10_person_50 (by decide) ?_
        exact aw_iret dX10_person_51 rfl rfl h
      · replace h := h.2 z
        refine aw_iload dX10_person_29 rfl ?_
        refine aw_iconst (v := 0) dX10_person_31 (by decide) ?_
        refine aw_sipush (v := 999) dX10_person_32 (by decide) ?_
        refine aw_callS (mi := iX10_in) (av := [.int x4, .int 0, .int 999]) (st := []) dX10_person_35 ml_X10_152 kX10_in rfl rfl (Nat.le_of_ble_eq_true rfl) (AM.mono (p_X10_in _ _ _) (fun r9 M9 e9 => ?_))
        obtain ⟨rfl, rfl⟩ := e9
        refine aw_if_eq (tgt := 50) dX10_person_38 (by decide) (fun z => ?_) (fun z => ?_)
        · replace h := h.1 z
          refine aw_iconst (v := (-1)) dX10_person_50 (by decide) ?_
          exact aw_iret dX10_person_51 rfl rfl h
        · replace h := h.2 z
          refine aw_aload_n dX10_person_41 rfl rfl ?_
          refine aw_getf dX10_person_42 fl_X10_138 (by decide) ce_77 rfl (v := .int (M 77 0)) rfl ?_
          refine aw_bipush (v := 16) dX10_person_45 (by decide) ?_
          refine aw_icmp_ne (tgt := 52) dX10_person_47 (by decide) (fun z => ?_) (fun z => ?_)
          · replace h := h.1 z
            refine aw_aload_n dX10_person_52 rfl rfl ?_
            refine aw_getf dX10_person_53 fl_X10_7 (by decide) ce_77 rfl (v := .ref 78) rfl ?_
            refine aw_aload_n dX10_person_56 rfl rfl ?_
            refine aw_getf dX10_person_57 fl_X10_138 (by decide) ce_77 rfl (v := .int (M 77 0)) rfl ?_
            refine aw_iload_n dX10_person_60 rfl rfl ?_
            obtain ⟨h9, h⟩ := h
            refine aw_iast dX10_person_61 (by decide) ce_78 h9 ?_
            refine aw_aload_n dX10_person_62 rfl rfl ?_
            refine aw_getf dX10_person_63 fl_X10_13 (by decide) ce_77 rfl (v := .ref 79) rfl ?_
            refine aw_aload_n dX10_person_66 rfl rfl ?_
            refine aw_getf dX10_person_67 fl_X10_138 (by decide) ce_77 rfl (v := .int (M 77 0)) rfl ?_
            refine aw_iload_n dX10_person_70 rfl rfl ?_
            obtain ⟨h9, h⟩ := h
            refine aw_iast dX10_person_71 (by decide) ce_79 h9 ?_
            refine aw_aload_n dX10_person_72 rfl rfl ?_
            refine aw_getf dX10_person_73 fl_X10_16 (by decide) ce_77 rfl (v := .ref 80) rfl ?_
            refine aw_aload_n dX10_person_76 rfl rfl ?_
            refine aw_getf dX10_person_77 fl_X10_138 (by decide) ce_77 rfl (v := .int (M 77 0)) rfl ?_
            refine aw_iload_n dX10_person_80 rfl rfl ?_
            obtain ⟨h9, h⟩ := h
            refine aw_iast dX10_person_81 (by decide) ce_80 h9 ?_
            refine aw_aload_n dX10_person_82 rfl rfl ?_
            refine aw_getf dX10_person_83 fl_X10_19 (by decide) ce_77 rfl (v := .ref 81) rfl ?_
            refine aw_aload_n dX10_person_86 rfl rfl ?_
            refine aw_getf dX10_person_87 fl_X10_138 (by decide) ce_77 rfl (v := .int (M 77 0)) rfl ?_
            refine aw_iconst (v := 0) dX10_person_90 (by decide) ?_
            obtain ⟨h9, h⟩ := h
            refine aw_iast dX10_person_91 (by decide) ce_81 h9 ?_
            refine aw_aload_n dX10_person_92 rfl rfl ?_
            refine aw_getf dX10_person_93 fl_X10_22 (by decide) ce_77 rfl (v := .ref 82) rfl ?_
            refine aw_aload_n dX10_person_96 rfl rfl ?_
            refine aw_getf dX10_person_97 fl_X10_138 (by decide) ce_77 rfl (v := .int (M 77 0)) rfl ?_
            refine aw_iload dX10_person_100 rfl ?_
            obtain ⟨h9, h⟩ := h
            refine aw_iast dX10_person_102 (by decide) ce_82 h9 ?_
            refine aw_aload_n dX10_person_103 rfl rfl ?_
            refine aw_aload_n dX10_person_104 rfl rfl ?_
            refine aw_getf dX10_person_105 fl_X10_145 (by decide) ce_77 rfl (v := .int (M 77 1)) rfl ?_
            refine aw_iconst (v := 1) dX10_person_108 (by decide) ?_
            refine aw_aload_n dX10_person_109 rfl rfl ?_
            refine aw_getf dX10_person_110 fl_X10_138 (by decide) ce_77 rfl (v := .int (M 77 0)) rfl ?_
            refine aw_ishl dX10_person_113 ?_
            refine aw_ior dX10_person_114 ?_
            refine aw_putf dX10_person_115 fp_X10_145 (by decide) ce_77 rfl rfl rfl ?_
            refine aw_aload_n dX10_person_118 rfl rfl ?_
            refine aw_aload_n dX10_person_119 rfl rfl ?_
            refine aw_getf dX10_person_120 fl_X10_138 (by decide) ce_77 rfl (v := .int (M 77 0)) rfl ?_
            refine aw_iconst (v := 1) dX10_person_123 (by decide) ?_
            refine aw_iadd dX10_person_124 ?_
            refine aw_putf dX10_person_125 fp_X10_138 (by decide) ce_77 rfl rfl rfl ?_
            refine aw_aload_n dX10_person_128 rfl rfl ?_
            refine aw_getf dX10_person_129 fl_X10_138 (by decide) ce_77 rfl (v := .int (((M 77 0) + 1))) rfl ?_
            refine aw_iconst (v := 1) dX10_person_132 (by decide) ?_
            refine aw_isub dX10_person_133 ?_
            exact aw_iret dX10_person_134 rfl rfl h
          · replace h := h.2 z
            refine aw_iconst (v := (-1)) dX10_person_50 (by decide) ?_
            exact aw_iret dX10_person_51 rfl rfl h
abbrev AX10_heels (d : Nat) (Q : Option Int32 → Mem → Prop) (pc : Nat) (L : List (Option Value)) (st : List Value) (M : Mem) : Prop := AW none RX10 cX10_heels 3 (some .boolean) d Q pc L st M
theorem eX10_heels {d : Nat} {Q : Option Int32 → Mem → Prop} (M : Mem) (x1 x2 : Int32) (h : AX10_heels d Q 0 [lR 77, lI x1, lI x2] [] M) : AM d iX10_heels [.ref 77, .int x1, .int x2] M Q := AM.of2 (by decide) rfl rfl h
theorem bX10_heels_0 {d : Nat} {Q : Option Int32 → Mem → Prop} (M : Mem) (x1 x2 : Int32) (h : ((livV (M 77 0) (M 77 1) x1) = 0 → Q (some 0) M) ∧ (¬ (livV (M 77 0) (M 77 1) x1) = 0 → (¬ (inV x2 0 9) = 0 → (vp_in x1 16) ∧ (Q (some 1) (wr M 81 (ix x1) x2))) ∧ ((inV x2 0 9) = 0 → Q (some 0) M))) : AX10_heels (d + 2) Q 0 [lR 77, lI x1, lI x2] [] M := by
  refine aw_aload_n dX10_heels_0 rfl rfl ?_
  refine aw_iload_n dX10_heels_1 rfl rfl ?_
  refine aw_callV (mi := iX10_lives) (av := [.int x1]) (st := []) dX10_heels_2 ml_X10_156 kX10_lives (by decide) ce_77 clX10 rfl rfl rfl (Nat.le_of_ble_eq_true rfl) (AM.mono (p_X10_lives _) (fun r9 M9 e9 => ?_))
  obtain ⟨rfl, rfl⟩ := e9
  refine aw_if_eq (tgt := 18) dX10_heels_5 (by decide) (fun z => ?_) (fun z => ?_)
  · replace h := h.1 z
    refine aw_iconst (v := 0) dX10_heels_18 (by decide) ?_
    exact aw_iret dX10_heels_19 rfl (nar_b (by decide)) h
  · replace h := h.2 z
    refine aw_iload_n dX10_heels_8 rfl rfl ?_
    refine aw_iconst (v := 0) dX10_heels_9 (by decide) ?_
    refine aw_bipush (v := 9) dX10_heels_10 (by decide) ?_
    refine aw_callS (mi := iX10_in) (av := [.int x2, .int 0, .int 9]) (st := []) dX10_heels_12 ml_X10_152 kX10_in rfl rfl (Nat.le_of_ble_eq_true rfl) (AM.mono (p_X10_in _ _ _) (fun r9 M9 e9 => ?_))
    obtain ⟨rfl, rfl⟩ := e9
    refine aw_if_ne (tgt := 20) dX10_heels_15 (by decide) (fun z => ?_) (fun z => ?_)
    · replace h := h.1 z
      refine aw_aload_n dX10_heels_20 rfl rfl ?_
      refine aw_getf dX10_heels_21 fl_X10_19 (by decide) ce_77 rfl (v := .ref 81) rfl ?_
      refine aw_iload_n dX10_heels_24 rfl rfl ?_
      refine aw_iload_n dX10_heels_25 rfl rfl ?_
      obtain ⟨h9, h⟩ := h
      refine aw_iast dX10_heels_26 (by decide) ce_81 h9 ?_
      refine aw_iconst (v := 1) dX10_heels_27 (by decide) ?_
      exact aw_iret dX10_heels_28 rfl (nar_b (by decide)) h
    · replace h := h.2 z
      refine aw_iconst (v := 0) dX10_heels_18 (by decide) ?_
      exact aw_iret dX10_heels_19 rfl (nar_b (by decide)) h
abbrev AX10_dies (d : Nat) (Q : Option Int32 → Mem → Prop) (pc : Nat) (L : List (Option Value)) (st : List Value) (M : Mem) : Prop := AW none RX10 cX10_dies 2 (some .boolean) d Q pc L st M
theorem eX10_dies {d : Nat} {Q : Option Int32 → Mem → Prop} (M : Mem) (x1 : Int32) (h : AX10_dies d Q 0 [lR 77, lI x1] [] M) : AM d iX10_dies [.ref 77, .int x1] M Q := AM.of2 (by decide) rfl rfl h
theorem bX10_dies_0 {d : Nat} {Q : Option Int32 → Mem → Prop} (M : Mem) (x1 : Int32) (h : (¬ (livV (M 77 0) (M 77 1) x1) = 0 → Q (some 1) (wr M 77 1 ((M 77 1) &&& (((1 : Int32) <<< (x1 &&& 31)) ^^^ (-1))))) ∧ ((livV (M 77 0) (M 77 1) x1) = 0 → Q (some 0) M)) : AX10_dies (d + 2) Q 0 [lR 77, lI x1] [] M := by
  refine aw_aload_n dX10_dies_0 rfl rfl ?_
  refine aw_iload_n dX10_dies_1 rfl rfl ?_
  refine aw_callV (mi := iX10_lives) (av := [.int x1]) (st := []) dX10_dies_2 ml_X10_156 kX10_lives (by decide) ce_77 clX10 rfl rfl rfl (Nat.le_of_ble_eq_true rfl) (AM.mono (p_X10_lives _) (fun r9 M9 e9 => ?_))
  obtain ⟨rfl, rfl⟩ := e9
  refine aw_if_ne (tgt := 10) dX10_dies_5 (by decide) (fun z => ?_) (fun z => ?_)
  · replace h := h.1 z
    refine aw_aload_n dX10_dies_10 rfl rfl ?_
    refine aw_aload_n dX10_dies_11 rfl rfl ?_
    refine aw_getf dX10_dies_12 fl_X10_145 (by decide) ce_77 rfl (v := .int (M 77 1)) rfl ?_
    refine aw_iconst (v := 1) dX10_dies_15 (by decide) ?_
    refine aw_iload_n dX10_dies_16 rfl rfl ?_
    refine aw_ishl dX10_dies_17 ?_
    refine aw_iconst (v := (-1)) dX10_dies_18 (by decide) ?_
    refine aw_ixor dX10_dies_19 ?_
    refine aw_iand dX10_dies_20 ?_
    refine aw_putf dX10_dies_21 fp_X10_145 (by decide) ce_77 rfl rfl rfl ?_
    refine aw_iconst (v := 1) dX10_dies_24 (by decide) ?_
    exact aw_iret dX10_dies_25 rfl (nar_b (by decide)) h
  · replace h := h.2 z
    refine aw_iconst (v := 0) dX10_dies_8 (by decide) ?_
    exact aw_iret dX10_dies_9 rfl (nar_b (by decide)) h
abbrev AX10_tallOf (d : Nat) (Q : Option Int32 → Mem → Prop) (pc : Nat) (L : List (Option Value)) (st : List Value) (M : Mem) : Prop := AW none RX10 cX10_tallOf 3 (some .int) d Q pc L st M
theorem eX10_tallOf {d : Nat} {Q : Option Int32 → Mem → Prop} (M : Mem) (x1 : Int32) (h : AX10_tallOf d Q 0 [lR 77, lI x1, none] [] M) : AM d iX10_tallOf [.ref 77, .int x1] M Q := AM.of2 (by decide) rfl rfl h
theorem bX10_tallOf_0 {d : Nat} {Q : Option Int32 → Mem → Prop} (M : Mem) (x1 : Int32) (h : (vp_in x1 16) ∧ ((¬ (M 78 (ix x1)) = 4 → AX10_tallOf d Q 57 [lR 77, lI x1, none] [] M) ∧ ((M 78 (ix x1)) = 4 → (vp_in x1 16) ∧ (((M 77 0) ≤ (M 82 (ix x1)) → AX10_tallOf d Q 57 [lR 77, lI x1, none] [] M) ∧ (¬ (M 77 0) ≤ (M 82 (ix x1)) → (vp_in x1 16) ∧ (((M 82 (ix x1)) = x1 → AX10_tallOf d Q 57 [lR 77, lI x1, none] [] M) ∧ (¬ (M 82 (ix x1)) = x1 → (vp_in x1 16) ∧ ((vp_in (M 82 (ix x1)) 16) ∧ (((M 78 (ix (M 82 (ix x1)))) = 4 → AX10_tallOf d Q 57 [lR 77, lI x1, none] [] M) ∧ (¬ (M 78 (ix (M 82 (ix x1)))) = 4 → (vp_in x1 16) ∧ (AX10_tallOf d Q 58 [lR 77, none, none] [.int (M 82 (ix x1))] M))))))))))) : AX10_tallOf d Q 0 [lR 77, lI x1, none] [] M := by
  refine aw_aload_n dX10_tallOf_0 rfl rfl ?_
  refine aw_getf dX10_tallOf_1 fl_X10_7 (by decide) ce_77 rfl (v := .ref 78) rfl ?_
  refine aw_iload_n dX10_tallOf_4 rfl rfl ?_
  obtain ⟨h9, h⟩ := h
  refine aw_iald dX10_tallOf_5 (by decide) ce_78 h9 ?_
  refine aw_iconst (v := 4) dX10_tallOf_6 (by decide) ?_
  refine aw_icmp_ne (tgt := 57) dX10_tallOf_7 (by decide) (fun z => ?_) (fun z => ?_)
  · replace h := h.1 z
    exact h
  · replace h := h.2 z
    refine aw_aload_n dX10_tallOf_10 rfl rfl ?_
    refine aw_getf dX10_tallOf_11 fl_X10_22 (by decide) ce_77 rfl (v := .ref 82) rfl ?_
    refine aw_iload_n dX10_tallOf_14 rfl rfl ?_
    obtain ⟨h9, h⟩ := h
    refine aw_iald dX10_tallOf_15 (by decide) ce_82 h9 ?_
    refine aw_aload_n dX10_tallOf_16 rfl rfl ?_
    refine aw_getf dX10_tallOf_17 fl_X10_138 (by decide) ce_77 rfl (v := .int (M 77 0)) rfl ?_
    refine aw_icmp_ge (tgt := 57) dX10_tallOf_20 (by decide) (fun z => ?_) (fun z => ?_)
    · replace h := h.1 z
      exact h
    · replace h := h.2 z
      refine aw_aload_n dX10_tallOf_23 rfl rfl ?_
      refine aw_getf dX10_tallOf_24 fl_X10_22 (by decide) ce_77 rfl (v := .ref 82) rfl ?_
      refine aw_iload_n dX10_tallOf_27 rfl rfl ?_
      obtain ⟨h9, h⟩ := h
      refine aw_iald dX10_tallOf_28 (by decide) ce_82 h9 ?_
      refine aw_iload_n dX10_tallOf_29 rfl rfl ?_
      refine aw_icmp_eq (tgt := 57) dX10_tallOf_30 (by decide) (fun z => ?_) (fun z => ?_)
      · replace h := h.1 z
        exact h
      · replace h := h.2 z
        refine aw_aload_n dX10_tallOf_33 rfl rfl ?_
        refine aw_getf dX10_tallOf_34 fl_X10_7 (by decide) ce_77 rfl (v := .ref 78) rfl ?_
        refine aw_aload_n dX10_tallOf_37 rfl rfl ?_
        refine aw_getf dX10_tallOf_38 fl_X10_22 (by decide) ce_77 rfl (v := .ref 82) rfl ?_
        refine aw_iload_n dX10_tallOf_41 rfl rfl ?_
        obtain ⟨h9, h⟩ := h
        refine aw_iald dX10_tallOf_42 (by decide) ce_82 h9 ?_
        obtain ⟨h9, h⟩ := h
        refine aw_iald dX10_tallOf_43 (by decide) ce_78 h9 ?_
        refine aw_iconst (v := 4) dX10_tallOf_44 (by decide) ?_
        refine aw_icmp_eq (tgt := 57) dX10_tallOf_45 (by decide) (fun z => ?_) (fun z => ?_)
        · replace h := h.1 z
          exact h
        · replace h := h.2 z
          refine aw_aload_n dX10_tallOf_48 rfl rfl ?_
          refine aw_getf dX10_tallOf_49 fl_X10_22 (by decide) ce_77 rfl (v := .ref 82) rfl ?_
          refine aw_iload_n dX10_tallOf_52 rfl rfl ?_
          obtain ⟨h9, h⟩ := h
          refine aw_iald dX10_tallOf_53 (by decide) ce_82 h9 ?_
          refine aw_goto (tgt := 58) dX10_tallOf_54 (by decide) ?_
          exact aw_less (less_k (less_d (less_k less_nil))) h
theorem bX10_tallOf_57 {d : Nat} {Q : Option Int32 → Mem → Prop} (M : Mem) (x1 : Int32) (h : AX10_tallOf d Q 58 [lR 77, none, none] [.int x1] M) : AX10_tallOf d Q 57 [lR 77, lI x1, none] [] M := by
  refine aw_iload_n dX10_tallOf_57 rfl rfl ?_
  exact aw_less (less_k (less_d (less_k less_nil))) h
theorem bX10_tallOf_58 {d : Nat} {Q : Option Int32 → Mem → Prop} (M : Mem) (s0 : Int32) (h : (vp_in s0 16) ∧ ((vp_in s0 16) ∧ (Q (some ((M 79 (ix s0)) + (M 81 (ix s0)))) M))) : AX10_tallOf d Q 58 [lR 77, none, none] [.int s0] M := by
  refine aw_istore_n (L2 := [lR 77, none, lI s0]) dX10_tallOf_58 rfl (by decide) rfl ?_
  refine aw_aload_n dX10_tallOf_59 rfl rfl ?_
  refine aw_getf dX10_tallOf_60 fl_X10_13 (by decide) ce_77 rfl (v := .ref 79) rfl ?_
  refine aw_iload_n dX10_tallOf_63 rfl rfl ?_
  obtain ⟨h9, h⟩ := h
  refine aw_iald dX10_tallOf_64 (by decide) ce_79 h9 ?_
  refine aw_aload_n dX10_tallOf_65 rfl rfl ?_
  refine aw_getf dX10_tallOf_66 fl_X10_19 (by decide) ce_77 rfl (v := .ref 81) rfl ?_
  refine aw_iload_n dX10_tallOf_69 rfl rfl ?_
  obtain ⟨h9, h⟩ := h
  refine aw_iald dX10_tallOf_70 (by decide) ce_81 h9 ?_
  refine aw_iadd dX10_tallOf_71 ?_
  exact aw_iret dX10_tallOf_72 rfl rfl h
abbrev AX10_tall (d : Nat) (Q : Option Int32 → Mem → Prop) (pc : Nat) (L : List (Option Value)) (st : List Value) (M : Mem) : Prop := AW none RX10 cX10_tall 2 (some .int) d Q pc L st M
theorem eX10_tall {d : Nat} {Q : Option Int32 → Mem → Prop} (M : Mem) (x1 : Int32) (h : AX10_tall d Q 0 [lR 77, lI x1] [] M) : AM d iX10_tall [.ref 77, .int x1] M Q := AM.of2 (by decide) rfl rfl h
theorem bX10_tall_0 {d : Nat} {Q : Option Int32 → Mem → Prop} (M : Mem) (x1 : Int32) (h : ((isPV (M 77 0) x1) = 0 → Q (some (-1)) M) ∧ (¬ (isPV (M 77 0) x1) = 0 → AMi d iX10_tallOf [.ref 77, .int x1] M (fun r1 M1 => Q (some r1) M1))) : AX10_tall (d + 1) Q 0 [lR 77, lI x1] [] M := by
  refine aw_aload_n dX10_tall_0 rfl rfl ?_
  refine aw_iload_n dX10_tall_1 rfl rfl ?_
  refine aw_callV (mi := iX10_isPerson) (av := [.int x1]) (st := []) dX10_tall_2 ml_X10_141 kX10_isPerson (by decide) ce_77 clX10 rfl rfl rfl (Nat.le_of_ble_eq_true rfl) (AM.mono (p_X10_isPerson _) (fun r9 M9 e9 => ?_))
  obtain ⟨rfl, rfl⟩ := e9
  refine aw_if_eq (tgt := 16) dX10_tall_5 (by decide) (fun z => ?_) (fun z => ?_)
  · replace h := h.1 z
    refine aw_iconst (v := (-1)) dX10_tall_16 (by decide) ?_
    exact aw_iret dX10_tall_17 rfl rfl h
  · replace h := h.2 z
    refine aw_aload_n dX10_tall_8 rfl rfl ?_
    refine aw_iload_n dX10_tall_9 rfl rfl ?_
    refine aw_callV (mi := iX10_tallOf) (av := [.int x1]) (st := []) dX10_tall_10 ml_X10_159 kX10_tallOf (by decide) ce_77 clX10 rfl rfl rfl (Nat.le_of_ble_eq_true rfl) (AM.mono h (fun r9 M1 h => ?_))
    obtain ⟨r1, rfl, h⟩ := h
    refine aw_goto (tgt := 17) dX10_tall_13 (by decide) ?_
    exact aw_iret dX10_tall_17 rfl rfl h
abbrev AX10_topOf (d : Nat) (Q : Option Int32 → Mem → Prop) (pc : Nat) (L : List (Option Value)) (st : List Value) (M : Mem) : Prop := AW none RX10 cX10_topOf 3 (some .int) d Q pc L st M
theorem eX10_topOf {d : Nat} {Q : Option Int32 → Mem → Prop} (M : Mem) (h : AX10_topOf d Q 0 [lR 77, none, none] [] M) : AM d iX10_topOf [.ref 77] M Q := AM.of2 (by decide) rfl rfl h
theorem bX10_topOf_0 {d : Nat} {Q : Option Int32 → Mem → Prop} (M : Mem) (h : AX10_topOf (d + 1) Q 4 [lR 77, lI (-1), lI 0] [] M) : AX10_topOf (d + 1) Q 0 [lR 77, none, none] [] M := by
  refine aw_iconst (v := (-1)) dX10_topOf_0 (by decide) ?_
  refine aw_istore_n (L2 := [lR 77, lI (-1), none]) dX10_topOf_1 rfl (by decide) rfl ?_
  refine aw_iconst (v := 0) dX10_topOf_2 (by decide) ?_
  refine aw_istore_n (L2 := [lR 77, lI (-1), lI 0]) dX10_topOf_3 rfl (by decide) rfl ?_
  exact h
theorem bX10_topOf_4 {d : Nat} {Q : Option Int32 → Mem → Prop} (M : Mem) (x1 x2 : Int32) (h : ((M 77 0) ≤ x2 → Q (some x1) M) ∧ (¬ (M 77 0) ≤ x2 → ((hasV (M 77 1) x2) = 0 → AX10_topOf (d + 1) Q 4 [lR 77, lI x1, lI (x2 + 1)] [] M) ∧ (¬ (hasV (M 77 1) x2) = 0 → (x1 = (-1) → AX10_topOf (d + 1) Q 4 [lR 77, lI x2, lI (x2 + 1)] [] M) ∧ (¬ x1 = (-1) → AMi d iX10_tallOf [.ref 77, .int x2] M (fun r1 M1 => AMi d iX10_tallOf [.ref 77, .int x1] M1 (fun r2 M2 => (r1 ≤ r2 → AX10_topOf (d + 1) Q 4 [lR 77, lI x1, lI (x2 + 1)] [] M2) ∧ (¬ r1 ≤ r2 → AX10_topOf (d + 1) Q 4 [lR 77, lI x2, lI (x2 + 1)] [] M2))))))) : AX10_topOf (d + 1) Q 4 [lR 77, lI x1, lI x2] [] M := by
  refine aw_iload_n dX10_topOf_4 rfl rfl ?_
  refine aw_aload_n dX10_topOf_5 rfl rfl ?_
  refine aw_getf dX10_topOf_6 fl_X10_138 (by decide) ce_77 rfl (v := .int (M 77 0)) rfl ?_
  refine aw_icmp_ge (tgt := 49) dX10_topOf_9 (by decide) (fun z => ?_) (fun z => ?_)
  · replace h := h.1 z
    refine aw_iload_n dX10_topOf_49 rfl rfl ?_
    exact aw_iret dX10_topOf_50 rfl rfl h
  · replace h := h.2 z
    refine aw_aload_n dX10_topOf_12 rfl rfl ?_
    refine aw_getf dX10_topOf_13 fl_X10_145 (by decide) ce_77 rfl (v := .int (M 77 1)) rfl ?_
    refine aw_iload_n dX10_topOf_16 rfl rfl ?_
    refine aw_callS (mi := iX10_has) (av := [.int (M 77 1), .int x2]) (st := []) dX10_topOf_17 ml_X10_148 kX10_has rfl rfl (Nat.le_of_ble_eq_true rfl) (AM.mono (p_X10_has _ _) (fun r9 M9 e9 => ?_))
    obtain ⟨rfl, rfl⟩ := e9
    refine aw_if_eq (tgt := 43) dX10_topOf_20 (by decide) (fun z => ?_) (fun z => ?_)
    · replace h := h.1 z
      refine aw_iinc (y := 1) (L2 := [lR 77, lI x1, lI (x2 + 1)]) dX10_topOf_43 rfl (by decide) (by decide) rfl ?_
      refine aw_goto (tgt := 4) dX10_topOf_46 (by decide) ?_
      exact h
    · replace h := h.2 z
      refine aw_iload_n dX10_topOf_23 rfl rfl ?_
      refine aw_iconst (v := (-1)) dX10_topOf_24 (by decide) ?_
      refine aw_icmp_eq (tgt := 41) dX10_topOf_25 (by decide) (fun z => ?_) (fun z => ?_)
      · replace h := h.1 z
        refine aw_iload_n dX10_topOf_41 rfl rfl ?_
        refine aw_istore_n (L2 := [lR 77, lI x2, lI x2]) dX10_topOf_42 rfl (by decide) rfl ?_
        refine aw_iinc (y := 1) (L2 := [lR 77, lI x2, lI (x2 + 1)]) dX10_topOf_43 rfl (by decide) (by decide) rfl ?_
        refine aw_goto (tgt := 4) dX10_topOf_46 (by decide) ?_
        exact h
      · replace h := h.2 z
        refine aw_aload_n dX10_topOf_28 rfl rfl ?_
        refine aw_iload_n dX10_topOf_29 rfl rfl ?_
        refine aw_callV (mi := iX10_tallOf) (av := [.int x2]) (st := []) dX10_topOf_30 ml_X10_159 kX10_tallOf (by decide) ce_77 clX10 rfl rfl rfl (Nat.le_of_ble_eq_true rfl) (AM.mono h (fun r9 M1 h => ?_))
        obtain ⟨r1, rfl, h⟩ := h
        refine aw_aload_n dX10_topOf_33 rfl rfl ?_
        refine aw_iload_n dX10_topOf_34 rfl rfl ?_
        refine aw_callV (mi := iX10_tallOf) (av := [.int x1]) (st := [.int r1]) dX10_topOf_35 ml_X10_159 kX10_tallOf (by decide) ce_77 clX10 rfl rfl rfl (Nat.le_of_ble_eq_true rfl) (AM.mono h (fun r9 M2 h => ?_))
        obtain ⟨r2, rfl, h⟩ := h
        refine aw_icmp_le (tgt := 43) dX10_topOf_38 (by decide) (fun z => ?_) (fun z => ?_)
        · replace h := h.1 z
          refine aw_iinc (y := 1) (L2 := [lR 77, lI x1, lI (x2 + 1)]) dX10_topOf_43 rfl (by decide) (by decide) rfl ?_
          refine aw_goto (tgt := 4) dX10_topOf_46 (by decide) ?_
          exact h
        · replace h := h.2 z
          refine aw_iload_n dX10_topOf_41 rfl rfl ?_
          refine aw_istore_n (L2 := [lR 77, lI x2, lI x2]) dX10_topOf_42 rfl (by decide) rfl ?_
          refine aw_iinc (y := 1) (L2 := [lR 77, lI x2, lI (x2 + 1)]) dX10_topOf_43 rfl (by decide) (by decide) rfl ?_
          refine aw_goto (tgt := 4) dX10_topOf_46 (by decide) ?_
          exact h
abbrev AX10_top (d : Nat) (Q : Option Int32 → Mem → Prop) (pc : Nat) (L : List (Option Value)) (st : List Value) (M : Mem) : Prop := AW none RX10 cX10_top 1 (some .int) d Q pc L st M
theorem eX10_top {d : Nat} {Q : Option Int32 → Mem → Prop} (M : Mem) (h : AX10_top d Q 0 [lR 77] [] M) : AM d iX10_top [.ref 77] M Q := AM.of2 (by decide) rfl rfl h
theorem bX10_top_0 {d : Nat} {Q : Option Int32 → Mem → Prop} (M : Mem) (h : AMi d iX10_topOf [.ref 77] M (fun r1 M1 => Q (some r1) M1)) : AX10_top (d + 1) Q 0 [lR 77] [] M := by
  refine aw_aload_n dX10_top_0 rfl rfl ?_
  refine aw_callV (mi := iX10_topOf) (av := []) (st := []) dX10_top_1 ml_X10_163 kX10_topOf (by decide) ce_77 clX10 rfl rfl rfl (Nat.le_of_ble_eq_true rfl) (AM.mono h (fun r9 M1 h => ?_))
  obtain ⟨r1, rfl, h⟩ := h
  exact aw_iret dX10_top_4 rfl rfl h
abbrev AX10_types (d : Nat) (Q : Option Int32 → Mem → Prop) (pc : Nat) (L : List (Option Value)) (st : List Value) (M : Mem) : Prop := AW none RX10 cX10_types 3 none d Q pc L st M
theorem eX10_types {d : Nat} {Q : Option Int32 → Mem → Prop} (M : Mem) (x1 : Int32) (h : AX10_types d Q 0 [lR 77, lI x1, none] [] M) : AM d iX10_types [.ref 77, .int x1] M Q := AM.of2 (by decide) rfl rfl h
theorem bX10_types_0 {d : Nat} {Q : Option Int32 → Mem → Prop} (M : Mem) (x1 : Int32) (h : AX10_types d Q 2 [lR 77, lI x1, lI 3] [] M) : AX10_types d Q 0 [lR 77, lI x1, none] [] M := by
  refine aw_iconst (v := 3) dX10_types_0 (by decide) ?_
  refine aw_istore_n (L2 := [lR 77, lI x1, lI 3]) dX10_types_1 rfl (by decide) rfl ?_
  exact h
theorem bX10_types_2 {d : Nat} {Q : Option Int32 → Mem → Prop} (M : Mem) (x1 x2 : Int32) (h : (x2 < 0 → Q none M) ∧ (¬ x2 < 0 → (vp_in (M 77 10) 200) ∧ (AX10_types d Q 2 [lR 77, lI x1, lI (x2 + (-1))] [] (wr (wr M 83 (ix (M 77 10)) (vp_nar .byte (Int8.toInt32 (Int32.toInt8 (x1 >>> ((8 * x2) &&& 31)))))) 77 10 ((M 77 10) + 1))))) : AX10_types d Q 2 [lR 77, lI x1, lI x2] [] M := by
  refine aw_iload_n dX10_types_2 rfl rfl ?_
  refine aw_if_lt (tgt := 38) dX10_types_3 (by decide) (fun z => ?_) (fun z => ?_)
  · replace h := h.1 z
    exact aw_vret dX10_types_38 rfl h
  · replace h := h.2 z
    refine aw_aload_n dX10_types_6 rfl rfl ?_
    refine aw_getf dX10_types_7 fl_X10_25 (by decide) ce_77 rfl (v := .ref 83) rfl ?_
    refine aw_aload_n dX10_types_10 rfl rfl ?_
    refine aw_getf dX10_types_11 fl_X10_167 (by decide) ce_77 rfl (v := .int (M 77 10)) rfl ?_
    refine aw_iload_n dX10_types_14 rfl rfl ?_
    refine aw_bipush (v := 8) dX10_types_15 (by decide) ?_
    refine aw_iload_n dX10_types_17 rfl rfl ?_
    refine aw_imul dX10_types_18 ?_
    refine aw_ishr dX10_types_19 ?_
    refine aw_i2b dX10_types_20 ?_
    obtain ⟨h9, h⟩ := h
    refine aw_bast dX10_types_21 (by decide) ce_83 h9 ?_
    refine aw_aload_n dX10_types_22 rfl rfl ?_
    refine aw_aload_n dX10_types_23 rfl rfl ?_
    refine aw_getf dX10_types_24 fl_X10_167 (by decide) ce_77 rfl (v := .int (M 77 10)) rfl ?_
    refine aw_iconst (v := 1) dX10_types_27 (by decide) ?_
    refine aw_iadd dX10_types_28 ?_
    refine aw_putf dX10_types_29 fp_X10_167 (by decide) ce_77 rfl rfl rfl ?_
    refine aw_iinc (y := (-1)) (L2 := [lR 77, lI x1, lI (x2 + (-1))]) dX10_types_32 rfl (by decide) (by decide) rfl ?_
    refine aw_goto (tgt := 2) dX10_types_35 (by decide) ?_
    exact h
abbrev AX10_feed (d : Nat) (Q : Option Int32 → Mem → Prop) (pc : Nat) (L : List (Option Value)) (st : List Value) (M : Mem) : Prop := AW none RX10 cX10_feed 6 (some .int) d Q pc L st M
theorem eX10_feed {d : Nat} {Q : Option Int32 → Mem → Prop} (M : Mem) (x1 x2 x3 x4 x5 : Int32) (h : AX10_feed d Q 0 [lR 77, lI x1, lI x2, lI x3, lI x4, lI x5] [] M) : AM d iX10_feed [.ref 77, .int x1, .int x2, .int x3, .int x4, .int x5] M Q := AM.of2 (by decide) rfl rfl h
theorem bX10_feed_0 {d : Nat} {Q : Option Int32 → Mem → Prop} (M : Mem) (x1 x2 x3 x4 x5 : Int32) (h : (((M 77 10) + 20) ≤ 200 → AMv d iX10_types [.ref 77, .int x1] M (fun M1 => AMv d iX10_types [.ref 77, .int x2] M1 (fun M2 => AMv d iX10_types [.ref 77, .int x3] M2 (fun M3 => AMv d iX10_types [.ref 77, .int x4] M3 (fun M4 => AMv d iX10_types [.ref 77, .int x5] M4 (fun M5 => Q (some (M5 77 10)) M5)))))) ∧ (¬ ((M 77 10) + 20) ≤ 200 → Q (some (-1)) M)) : AX10_feed (d + 1) Q 0 [lR 77, lI x1, lI x2, lI x3, lI x4, lI x5] [] M := by
  refine aw_aload_n dX10_feed_0 rfl rfl ?_
  refine aw_getf dX10_feed_1 fl_X10_167 (by decide) ce_77 rfl (v := .int (M 77 10)) rfl ?_
  refine aw_bipush (v := 20) dX10_feed_4 (by decide) ?_
  refine aw_iadd dX10_feed_6 ?_
  refine aw_sipush (v := 200) dX10_feed_7 (by decide) ?_
  refine aw_icmp_le (tgt := 15) dX10_feed_10 (by decide) (fun z => ?_) (fun z => ?_)
  · replace h := h.1 z
    refine aw_aload_n dX10_feed_15 rfl rfl ?_
    refine aw_iload_n dX10_feed_16 rfl rfl ?_
    refine aw_callV (mi := iX10_types) (av := [.int x1]) (st := []) dX10_feed_17 ml_X10_170 kX10_types (by decide) ce_77 clX10 rfl rfl rfl (Nat.le_of_ble_eq_true rfl) (AM.mono h (fun r9 M1 h => ?_))
    obtain ⟨rfl, h⟩ := h
    refine aw_aload_n dX10_feed_20 rfl rfl ?_
    refine aw_iload_n dX10_feed_21 rfl rfl ?_
    refine aw_callV (mi := iX10_types) (av := [.int x2]) (st := []) dX10_feed_22 ml_X10_170 kX10_types (by decide) ce_77 clX10 rfl rfl rfl (Nat.le_of_ble_eq_true rfl) (AM.mono h (fun r9 M2 h => ?_))
    obtain ⟨rfl, h⟩ := h
    refine aw_aload_n dX10_feed_25 rfl rfl ?_
    refine aw_iload_n dX10_feed_26 rfl rfl ?_
    refine aw_callV (mi := iX10_types) (av := [.int x3]) (st := []) dX10_feed_27 ml_X10_170 kX10_types (by decide) ce_77 clX10 rfl rfl rfl (Nat.le_of_ble_eq_true rfl) (AM.mono h (fun r9 M3 h => ?_))
    obtain ⟨rfl, h⟩ := h
    refine aw_aload_n dX10_feed_30 rfl rfl ?_
    refine aw_iload dX10_feed_31 rfl ?_
    refine aw_callV (mi := iX10_types) (av := [.int x4]) (st := []) dX10_feed_33 ml_X10_170 kX10_types (by decide) ce_77 clX10 rfl rfl rfl (Nat.le_of_ble_eq_true rfl) (AM.mono h (fun r9 M4 h => ?_))
    obtain ⟨rfl, h⟩ := h
    refine aw_aload_n dX10_feed_36 rfl rfl ?_
    refine aw_iload dX10_feed_37 rfl ?_
    refine aw_callV (mi := iX10_types) (av := [.int x5]) (st := []) dX10_feed_39 ml_X10_170 kX10_types (by decide) ce_77 clX10 rfl rfl rfl (Nat.le_of_ble_eq_true rfl) (AM.mono h (fun r9 M5 h => ?_))
    obtain ⟨rfl, h⟩ := h
    refine aw_aload_n dX10_feed_42 rfl rfl ?_
    refine aw_getf dX10_feed_43 fl_X10_167 (by decide) ce_77 rfl (v := .int (M5 77 10)) rfl ?_
    exact aw_iret dX10_feed_46 rfl rfl h
  · replace h := h.2 z
    refine aw_iconst (v := (-1)) dX10_feed_13 (by decide) ?_
    exact aw_iret dX10_feed_14 rfl rfl h
abbrev AX10_isDigit (d : Nat) (Q : Option Int32 → Mem → Prop) (pc : Nat) (L : List (Option Value)) (st : List Value) (M : Mem) : Prop := AW none RX10 cX10_isDigit 1 (some .boolean) d Q pc L st M
theorem eX10_isDigit {d : Nat} {Q : Option Int32 → Mem → Prop} (M : Mem) (h : AX10_isDigit d Q 0 [lR 77] [] M) : AM d iX10_isDigit [.ref 77] M Q := AM.of2 (by decide) rfl rfl h
theorem bX10_isDigit_0 {d : Nat} {Q : Option Int32 → Mem → Prop} (M : Mem) (h : AMi d iX10_here [.ref 77] M (fun r1 M1 => (r1 < 48 → Q (some 0) M1) ∧ (¬ r1 < 48 → AMi d iX10_here [.ref 77] M1 (fun r2 M2 => (57 < r2 → Q (some 0) M2) ∧ (¬ 57 < r2 → Q (some 1) M2))))) : AX10_isDigit (d + 1) Q 0 [lR 77] [] M := by
  refine aw_aload_n dX10_isDigit_0 rfl rfl ?_
  refine aw_callV (mi := iX10_here) (av := []) (st := []) dX10_isDigit_1 ml_X10_180 kX10_here (by decide) ce_77 clX10 rfl rfl rfl (Nat.le_of_ble_eq_true rfl) (AM.mono h (fun r9 M1 h => ?_))
  obtain ⟨r1, rfl, h⟩ := h
  refine aw_bipush (v := 48) dX10_isDigit_4 (by decide) ?_
  refine aw_icmp_lt (tgt := 22) dX10_isDigit_6 (by decide) (fun z => ?_) (fun z => ?_)
  · replace h := h.1 z
    refine aw_iconst (v := 0) dX10_isDigit_22 (by decide) ?_
    exact aw_iret dX10_isDigit_23 rfl (nar_b (by decide)) h
  · replace h := h.2 z
    refine aw_aload_n dX10_isDigit_9 rfl rfl ?_
    refine aw_callV (mi := iX10_here) (av := []) (st := []) dX10_isDigit_10 ml_X10_180 kX10_here (by decide) ce_77 clX10 rfl rfl rfl (Nat.le_of_ble_eq_true rfl) (AM.mono h (fun r9 M2 h => ?_))
    obtain ⟨r2, rfl, h⟩ := h
    refine aw_bipush (v := 57) dX10_isDigit_13 (by decide) ?_
    refine aw_icmp_gt (tgt := 22) dX10_isDigit_15 (by decide) (fun z => ?_) (fun z => ?_)
    · replace h := h.1 z
      refine aw_iconst (v := 0) dX10_isDigit_22 (by decide) ?_
      exact aw_iret dX10_isDigit_23 rfl (nar_b (by decide)) h
    · replace h := h.2 z
      refine aw_iconst (v := 1) dX10_isDigit_18 (by decide) ?_
      refine aw_goto (tgt := 23) dX10_isDigit_19 (by decide) ?_
      exact aw_iret dX10_isDigit_23 rfl (nar_b (by decide)) h
abbrev AX10_wrongAt (d : Nat) (Q : Option Int32 → Mem → Prop) (pc : Nat) (L : List (Option Value)) (st : List Value) (M : Mem) : Prop := AW none RX10 cX10_wrongAt 3 (some .boolean) d Q pc L st M
theorem eX10_wrongAt {d : Nat} {Q : Option Int32 → Mem → Prop} (M : Mem) (x1 x2 : Int32) (h : AX10_wrongAt d Q 0 [lR 77, lI x1, lI x2] [] M) : AM d iX10_wrongAt [.ref 77, .int x1, .int x2] M Q := AM.of2 (by decide) rfl rfl h
theorem bX10_wrongAt_0 {d : Nat} {Q : Option Int32 → Mem → Prop} (M : Mem) (x1 x2 : Int32) (h : Q (some 0) (wr M 77 13 (((-1000) * x1) - x2))) : AX10_wrongAt d Q 0 [lR 77, lI x1, lI x2] [] M := by
  refine aw_aload_n dX10_wrongAt_0 rfl rfl ?_
  refine aw_sipush (v := (-1000)) dX10_wrongAt_1 (by decide) ?_
  refine aw_iload_n dX10_wrongAt_4 rfl rfl ?_
  refine aw_imul dX10_wrongAt_5 ?_
  refine aw_iload_n dX10_wrongAt_6 rfl rfl ?_
  refine aw_isub dX10_wrongAt_7 ?_
  refine aw_putf dX10_wrongAt_8 fp_X10_183 (by decide) ce_77 rfl rfl rfl ?_
  refine aw_iconst (v := 0) dX10_wrongAt_11 (by decide) ?_
  exact aw_iret dX10_wrongAt_12 rfl (nar_b (by decide)) h
abbrev AX10_takes (d : Nat) (Q : Option Int32 → Mem → Prop) (pc : Nat) (L : List (Option Value)) (st : List Value) (M : Mem) : Prop := AW none RX10 cX10_takes 2 (some .boolean) d Q pc L st M
theorem eX10_takes {d : Nat} {Q : Option Int32 → Mem → Prop} (M : Mem) (x1 : Int32) (h : AX10_takes d Q 0 [lR 77, lI x1] [] M) : AM d iX10_takes [.ref 77, .int x1] M Q := AM.of2 (by decide) rfl rfl h
theorem bX10_takes_0 {d : Nat} {Q : Option Int32 → Mem → Prop} (M : Mem) (x1 : Int32) (h : AMi d iX10_here [.ref 77] M (fun r1 M1 => (r1 = x1 → Q (some 1) (wr M1 77 11 ((M1 77 11) + 1))) ∧ (¬ r1 = x1 → AMi d iX10_wrongAt [.ref 77, .int 1, .int (M1 77 11)] M1 (fun r2 M2 => (r2 = 0 ∨ r2 = 1) ∧ Q (some r2) M2)))) : AX10_takes (d + 1) Q 0 [lR 77, lI x1] [] M := by
  refine aw_aload_n dX10_takes_0 rfl rfl ?_
  refine aw_callV (mi := iX10_here) (av := []) (st := []) dX10_takes_1 ml_X10_180 kX10_here (by decide) ce_77 clX10 rfl rfl rfl (Nat.le_of_ble_eq_true rfl) (AM.mono h (fun r9 M1 h => ?_))
  obtain ⟨r1, rfl, h⟩ := h
  refine aw_iload_n dX10_takes_4 rfl rfl ?_
  refine aw_icmp_eq (tgt := 18) dX10_takes_5 (by decide) (fun z => ?_) (fun z => ?_)
  · replace h := h.1 z
    refine aw_aload_n dX10_takes_18 rfl rfl ?_
    refine aw_aload_n dX10_takes_19 rfl rfl ?_
    refine aw_getf dX10_takes_20 fl_X10_174 (by decide) ce_77 rfl (v := .int (M1 77 11)) rfl ?_
    refine aw_iconst (v := 1) dX10_takes_23 (by decide) ?_
    refine aw_iadd dX10_takes_24 ?_
    refine aw_putf dX10_takes_25 fp_X10_174 (by decide) ce_77 rfl rfl rfl ?_
    refine aw_iconst (v := 1) dX10_takes_28 (by decide) ?_
    exact aw_iret dX10_takes_29 rfl (nar_b (by decide)) h
  · replace h := h.2 z
    refine aw_aload_n dX10_takes_8 rfl rfl ?_
    refine aw_iconst (v := 1) dX10_takes_9 (by decide) ?_
    refine aw_aload_n dX10_takes_10 rfl rfl ?_
    refine aw_getf dX10_takes_11 fl_X10_174 (by decide) ce_77 rfl (v := .int (M1 77 11)) rfl ?_
    refine aw_callV (mi := iX10_wrongAt) (av := [.int 1, .int (M1 77 11)]) (st := []) dX10_takes_14 ml_X10_186 kX10_wrongAt (by decide) ce_77 clX10 rfl rfl rfl (Nat.le_of_ble_eq_true rfl) (AM.mono h (fun r9 M2 h => ?_))
    obtain ⟨r2, rfl, h⟩ := h
    exact aw_iret dX10_takes_17 rfl (nar_b h.1) h.2
abbrev AX10_readsNumber (d : Nat) (Q : Option Int32 → Mem → Prop) (pc : Nat) (L : List (Option Value)) (st : List Value) (M : Mem) : Prop := AW none RX10 cX10_readsNumber 2 (some .boolean) d Q pc L st M
theorem eX10_readsNumber {d : Nat} {Q : Option Int32 → Mem → Prop} (M : Mem) (h : AX10_readsNumber d Q 0 [lR 77, none] [] M) : AM d iX10_readsNumber [.ref 77] M Q := AM.of2 (by decide) rfl rfl h
theorem bX10_readsNumber_0 {d : Nat} {Q : Option Int32 → Mem → Prop} (M : Mem) (h : AX10_readsNumber (d + 1) Q 10 [lR 77, lI (M 77 11)] [] (wr M 77 18 0)) : AX10_readsNumber (d + 1) Q 0 [lR 77, none] [] M := by
  refine aw_aload_n dX10_readsNumber_0 rfl rfl ?_
  refine aw_getf dX10_readsNumber_1 fl_X10_174 (by decide) ce_77 rfl (v := .int (M 77 11)) rfl ?_
  refine aw_istore_n (L2 := [lR 77, lI (M 77 11)]) dX10_readsNumber_4 rfl (by decide) rfl ?_
  refine aw_aload_n dX10_readsNumber_5 rfl rfl ?_
  refine aw_iconst (v := 0) dX10_readsNumber_6 (by decide) ?_
  refine aw_putf dX10_readsNumber_7 fp_X10_189 (by decide) ce_77 rfl rfl rfl ?_
  exact h
theorem bX10_readsNumber_10 {d : Nat} {Q : Option Int32 → Mem → Prop} (M : Mem) (x1 : Int32) (h : AMi d iX10_isDigit [.ref 77] M (fun r1 M1 => (r1 = 0 → Q (some 1) M1) ∧ (¬ r1 = 0 → (¬ (M1 77 11) = (x1 + 5) → AMi d iX10_here [.ref 77] M1 (fun r2 M2 => AX10_readsNumber (d + 1) Q 10 [lR 77, lI x1] [] (wr (wr M2 77 18 (((10 * (M1 77 18)) + r2) - 48)) 77 11 ((M2 77 11) + 1)))) ∧ ((M1 77 11) = (x1 + 5) → AMi d iX10_wrongAt [.ref 77, .int 2, .int (M1 77 11)] M1 (fun r3 M3 => (r3 = 0 ∨ r3 = 1) ∧ Q (some r3) M3))))) : AX10_readsNumber (d + 1) Q 10 [lR 77, lI x1] [] M := by
  refine aw_aload_n dX10_readsNumber_10 rfl rfl ?_
  refine aw_callV (mi := iX10_isDigit) (av := []) (st := []) dX10_readsNumber_11 ml_X10_192 kX10_isDigit (by decide) ce_77 clX10 rfl rfl rfl (Nat.le_of_ble_eq_true rfl) (AM.mono h (fun r9 M1 h => ?_))
  obtain ⟨r1, rfl, h⟩ := h
  refine aw_if_eq (tgt := 69) dX10_readsNumber_14 (by decide) (fun z => ?_) (fun z => ?_)
  · replace h := h.1 z
    refine aw_iconst (v := 1) dX10_readsNumber_69 (by decide) ?_
    exact aw_iret dX10_readsNumber_70 rfl (nar_b (by decide)) h
  · replace h := h.2 z
    refine aw_aload_n dX10_readsNumber_17 rfl rfl ?_
    refine aw_getf dX10_readsNumber_18 fl_X10_174 (by decide) ce_77 rfl (v := .int (M1 77 11)) rfl ?_
    refine aw_iload_n dX10_readsNumber_21 rfl rfl ?_
    refine aw_iconst (v := 5) dX10_readsNumber_22 (by decide) ?_
    refine aw_iadd dX10_readsNumber_23 ?_
    refine aw_icmp_ne (tgt := 37) dX10_readsNumber_24 (by decide) (fun z => ?_) (fun z => ?_)
    · replace h := h.1 z
      refine aw_aload_n dX10_readsNumber_37 rfl rfl ?_
      refine aw_bipush (v := 10) dX10_readsNumber_38 (by decide) ?_
      refine aw_aload_n dX10_readsNumber_40 rfl rfl ?_
      refine aw_getf dX10_readsNumber_41 fl_X10_189 (by decide) ce_77 rfl (v := .int (M1 77 18)) rfl ?_
      refine aw_imul dX10_readsNumber_44 ?_
      refine aw_aload_n dX10_readsNumber_45 rfl rfl ?_
      refine aw_callV (mi := iX10_here) (av := []) (st := [.int (10 * (M1 77 18)), .ref 77]) dX10_readsNumber_46 ml_X10_180 kX10_here (by decide) ce_77 clX10 rfl rfl rfl (Nat.le_of_ble_eq_true rfl) (AM.mono h (fun r9 M2 h => ?_))
      obtain ⟨r2, rfl, h⟩ := h
      refine aw_iadd dX10_readsNumber_49 ?_
      refine aw_bipush (v := 48) dX10_readsNumber_50 (by decide) ?_
      refine aw_isub dX10_readsNumber_52 ?_
      refine aw_putf dX10_readsNumber_53 fp_X10_189 (by decide) ce_77 rfl rfl rfl ?_
      refine aw_aload_n dX10_readsNumber_56 rfl rfl ?_
      refine aw_aload_n dX10_readsNumber_57 rfl rfl ?_
      refine aw_getf dX10_readsNumber_58 fl_X10_174 (by decide) ce_77 rfl (v := .int (M2 77 11)) rfl ?_
      refine aw_iconst (v := 1) dX10_readsNumber_61 (by decide) ?_
      refine aw_iadd dX10_readsNumber_62 ?_
      refine aw_putf dX10_readsNumber_63 fp_X10_174 (by decide) ce_77 rfl rfl rfl ?_
      refine aw_goto (tgt := 10) dX10_readsNumber_66 (by decide) ?_
      exact h
    · replace h := h.2 z
      refine aw_aload_n dX10_readsNumber_27 rfl rfl ?_
      refine aw_iconst (v := 2) dX10_readsNumber_28 (by decide) ?_
      refine aw_aload_n dX10_readsNumber_29 rfl rfl ?_
      refine aw_getf dX10_readsNumber_30 fl_X10_174 (by decide) ce_77 rfl (v := .int (M1 77 11)) rfl ?_
      refine aw_callV (mi := iX10_wrongAt) (av := [.int 2, .int (M1 77 11)]) (st := []) dX10_readsNumber_33 ml_X10_186 kX10_wrongAt (by decide) ce_77 clX10 rfl rfl rfl (Nat.le_of_ble_eq_true rfl) (AM.mono h (fun r9 M3 h => ?_))
      obtain ⟨r3, rfl, h⟩ := h
      exact aw_iret dX10_readsNumber_36 rfl (nar_b h.1) h.2
abbrev AX10_notes (d : Nat) (Q : Option Int32 → Mem → Prop) (pc : Nat) (L : List (Option Value)) (st : List Value) (M : Mem) : Prop := AW none RX10 cX10_notes 3 none d Q pc L st M
theorem eX10_notes {d : Nat} {Q : Option Int32 → Mem → Prop} (M : Mem) (x1 x2 : Int32) (h : AX10_notes d Q 0 [lR 77, lI x1, lI x2] [] M) : AM d iX10_notes [.ref 77, .int x1, .int x2] M Q := AM.of2 (by decide) rfl rfl h
theorem bX10_notes_0 {d : Nat} {Q : Option Int32 → Mem → Prop} (M : Mem) (x1 x2 : Int32) (h : (vp_in (M 77 15) 180) ∧ (Q none (wr (wr M 84 (ix (M 77 15)) ((1048576 * x1) + x2)) 77 15 ((M 77 15) + 1)))) : AX10_notes d Q 0 [lR 77, lI x1, lI x2] [] M := by
  refine aw_aload_n dX10_notes_0 rfl rfl ?_
  refine aw_getf dX10_notes_1 fl_X10_29 (by decide) ce_77 rfl (v := .ref 84) rfl ?_
  refine aw_aload_n dX10_notes_4 rfl rfl ?_
  refine aw_getf dX10_notes_5 fl_X10_196 (by decide) ce_77 rfl (v := .int (M 77 15)) rfl ?_
  refine aw_ldc dX10_notes_8 kc_X10_199 ?_
  refine aw_iload_n dX10_notes_10 rfl rfl ?_
  refine aw_imul dX10_notes_11 ?_
  refine aw_iload_n dX10_notes_12 rfl rfl ?_
  refine aw_iadd dX10_notes_13 ?_
  obtain ⟨h9, h⟩ := h
  refine aw_iast dX10_notes_14 (by decide) ce_84 h9 ?_
  refine aw_aload_n dX10_notes_15 rfl rfl ?_
  refine aw_aload_n dX10_notes_16 rfl rfl ?_
  refine aw_getf dX10_notes_17 fl_X10_196 (by decide) ce_77 rfl (v := .int (M 77 15)) rfl ?_
  refine aw_iconst (v := 1) dX10_notes_20 (by decide) ?_
  refine aw_iadd dX10_notes_21 ?_
  refine aw_putf dX10_notes_22 fp_X10_196 (by decide) ce_77 rfl rfl rfl ?_
  exact aw_vret dX10_notes_25 rfl h
abbrev AX10_opens (d : Nat) (Q : Option Int32 → Mem → Prop) (pc : Nat) (L : List (Option Value)) (st : List Value) (M : Mem) : Prop := AW none RX10 cX10_opens 2 (some .boolean) d Q pc L st M
theorem eX10_opens {d : Nat} {Q : Option Int32 → Mem → Prop} (M : Mem) (x1 : Int32) (h : AX10_opens d Q 0 [lR 77, lI x1] [] M) : AM d iX10_opens [.ref 77, .int x1] M Q := AM.of2 (by decide) rfl rfl h
theorem bX10_opens_0 {d : Nat} {Q : Option Int32 → Mem → Prop} (M : Mem) (x1 : Int32) (h : (¬ (M 77 14) = 6 → (vp_in (M 77 16) 180) ∧ (Q (some 1) (wr (wr (wr (wr M 77 14 ((M 77 14) + 1)) 85 (ix (M 77 16)) (1048576 * x1)) 77 16 ((M 77 16) + 1)) 77 11 ((M 77 11) + 1)))) ∧ ((M 77 14) = 6 → AMi d iX10_wrongAt [.ref 77, .int 5, .int (M 77 11)] M (fun r1 M1 => (r1 = 0 ∨ r1 = 1) ∧ Q (some r1) M1))) : AX10_opens (d + 1) Q 0 [lR 77, lI x1] [] M := by
  refine aw_aload_n dX10_opens_0 rfl rfl ?_
  refine aw_getf dX10_opens_1 fl_X10_200 (by decide) ce_77 rfl (v := .int (M 77 14)) rfl ?_
  refine aw_bipush (v := 6) dX10_opens_4 (by decide) ?_
  refine aw_icmp_ne (tgt := 19) dX10_opens_6 (by decide) (fun z => ?_) (fun z => ?_)
  · replace h := h.1 z
    refine aw_aload_n dX10_opens_19 rfl rfl ?_
    refine aw_aload_n dX10_opens_20 rfl rfl ?_
    refine aw_getf dX10_opens_21 fl_X10_200 (by decide) ce_77 rfl (v := .int (M 77 14)) rfl ?_
    refine aw_iconst (v := 1) dX10_opens_24 (by decide) ?_
    refine aw_iadd dX10_opens_25 ?_
    refine aw_putf dX10_opens_26 fp_X10_200 (by decide) ce_77 rfl rfl rfl ?_
    refine aw_aload_n dX10_opens_29 rfl rfl ?_
    refine aw_getf dX10_opens_30 fl_X10_32 (by decide) ce_77 rfl (v := .ref 85) rfl ?_
    refine aw_aload_n dX10_opens_33 rfl rfl ?_
    refine aw_getf dX10_opens_34 fl_X10_203 (by decide) ce_77 rfl (v := .int (M 77 16)) rfl ?_
    refine aw_ldc dX10_opens_37 kc_X10_199 ?_
    refine aw_iload_n dX10_opens_39 rfl rfl ?_
    refine aw_imul dX10_opens_40 ?_
    obtain ⟨h9, h⟩ := h
    refine aw_iast dX10_opens_41 (by decide) ce_85 h9 ?_
    refine aw_aload_n dX10_opens_42 rfl rfl ?_
    refine aw_aload_n dX10_opens_43 rfl rfl ?_
    refine aw_getf dX10_opens_44 fl_X10_203 (by decide) ce_77 rfl (v := .int (M 77 16)) rfl ?_
    refine aw_iconst (v := 1) dX10_opens_47 (by decide) ?_
    refine aw_iadd dX10_opens_48 ?_
    refine aw_putf dX10_opens_49 fp_X10_203 (by decide) ce_77 rfl rfl rfl ?_
    refine aw_aload_n dX10_opens_52 rfl rfl ?_
    refine aw_aload_n dX10_opens_53 rfl rfl ?_
    refine aw_getf dX10_opens_54 fl_X10_174 (by decide) ce_77 rfl (v := .int (M 77 11)) rfl ?_
    refine aw_iconst (v := 1) dX10_opens_57 (by decide) ?_
    refine aw_iadd dX10_opens_58 ?_
    refine aw_putf dX10_opens_59 fp_X10_174 (by decide) ce_77 rfl rfl rfl ?_
    refine aw_iconst (v := 1) dX10_opens_62 (by decide) ?_
    exact aw_iret dX10_opens_63 rfl (nar_b (by decide)) h
  · replace h := h.2 z
    refine aw_aload_n dX10_opens_9 rfl rfl ?_
    refine aw_iconst (v := 5) dX10_opens_10 (by decide) ?_
    refine aw_aload_n dX10_opens_11 rfl rfl ?_
    refine aw_getf dX10_opens_12 fl_X10_174 (by decide) ce_77 rfl (v := .int (M 77 11)) rfl ?_
    refine aw_callV (mi := iX10_wrongAt) (av := [.int 5, .int (M 77 11)]) (st := []) dX10_opens_15 ml_X10_186 kX10_wrongAt (by decide) ce_77 clX10 rfl rfl rfl (Nat.le_of_ble_eq_true rfl) (AM.mono h (fun r9 M1 h => ?_))
    obtain ⟨r1, rfl, h⟩ := h
    exact aw_iret dX10_opens_18 rfl (nar_b h.1) h.2
abbrev AX10_closesSums (d : Nat) (Q : Option Int32 → Mem → Prop) (pc : Nat) (L : List (Option Value)) (st : List Value) (M : Mem) : Prop := AW none RX10 cX10_closesSums 2 none d Q pc L st M
theorem eX10_closesSums {d : Nat} {Q : Option Int32 → Mem → Prop} (M : Mem) (x1 : Int32) (h : AX10_closesSums d Q 0 [lR 77, lI x1] [] M) : AM d iX10_closesSums [.ref 77, .int x1] M Q := AM.of2 (by decide) rfl rfl h
theorem bX10_closesSums_0 {d : Nat} {Q : Option Int32 → Mem → Prop} (M : Mem) (x1 : Int32) (h : AMi d iX10_waitTop [.ref 77] M (fun r1 M1 => (r1 < 4 → AX10_closesSums (d + 1) Q 17 [lR 77, lI x1] [] M1) ∧ (¬ r1 < 4 → AMi d iX10_waitTop [.ref 77] M1 (fun r2 M2 => (r2 ≤ 6 → AX10_closesSums (d + 1) Q 37 [lR 77, lI x1] [] M2) ∧ (¬ r2 ≤ 6 → AX10_closesSums (d + 1) Q 17 [lR 77, lI x1] [] M2))))) : AX10_closesSums (d + 1) Q 0 [lR 77, lI x1] [] M := by
  refine aw_aload_n dX10_closesSums_0 rfl rfl ?_
  refine aw_callV (mi := iX10_waitTop) (av := []) (st := []) dX10_closesSums_1 ml_X10_206 kX10_waitTop (by decide) ce_77 clX10 rfl rfl rfl (Nat.le_of_ble_eq_true rfl) (AM.mono h (fun r9 M1 h => ?_))
  obtain ⟨r1, rfl, h⟩ := h
  refine aw_iconst (v := 4) dX10_closesSums_4 (by decide) ?_
  refine aw_icmp_lt (tgt := 17) dX10_closesSums_5 (by decide) (fun z => ?_) (fun z => ?_)
  · replace h := h.1 z
    exact h
  · replace h := h.2 z
    refine aw_aload_n dX10_closesSums_8 rfl rfl ?_
    refine aw_callV (mi := iX10_waitTop) (av := []) (st := []) dX10_closesSums_9 ml_X10_206 kX10_waitTop (by decide) ce_77 clX10 rfl rfl rfl (Nat.le_of_ble_eq_true rfl) (AM.mono h (fun r9 M2 h => ?_))
    obtain ⟨r2, rfl, h⟩ := h
    refine aw_bipush (v := 6) dX10_closesSums_12 (by decide) ?_
    refine aw_icmp_le (tgt := 37) dX10_closesSums_14 (by decide) (fun z => ?_) (fun z => ?_)
    · replace h := h.1 z
      exact h
    · replace h := h.2 z
      exact h
theorem bX10_closesSums_17 {d : Nat} {Q : Option Int32 → Mem → Prop} (M : Mem) (x1 : Int32) (h : (x1 = 0 → Q none M) ∧ (¬ x1 = 0 → AMi d iX10_waitTop [.ref 77] M (fun r1 M1 => (r1 = 2 → AX10_closesSums (d + 1) Q 37 [lR 77, lI x1] [] M1) ∧ (¬ r1 = 2 → AMi d iX10_waitTop [.ref 77] M1 (fun r2 M2 => (¬ r2 = 3 → Q none M2) ∧ (r2 = 3 → AX10_closesSums (d + 1) Q 37 [lR 77, lI x1] [] M2)))))) : AX10_closesSums (d + 1) Q 17 [lR 77, lI x1] [] M := by
  refine aw_iload_n dX10_closesSums_17 rfl rfl ?_
  refine aw_if_eq (tgt := 59) dX10_closesSums_18 (by decide) (fun z => ?_) (fun z => ?_)
  · replace h := h.1 z
    exact aw_vret dX10_closesSums_59 rfl h
  · replace h := h.2 z
    refine aw_aload_n dX10_closesSums_21 rfl rfl ?_
    refine aw_callV (mi := iX10_waitTop) (av := []) (st := []) dX10_closesSums_22 ml_X10_206 kX10_waitTop (by decide) ce_77 clX10 rfl rfl rfl (Nat.le_of_ble_eq_true rfl) (AM.mono h (fun r9 M1 h => ?_))
    obtain ⟨r1, rfl, h⟩ := h
    refine aw_iconst (v := 2) dX10_closesSums_25 (by decide) ?_
    refine aw_icmp_eq (tgt := 37) dX10_closesSums_26 (by decide) (fun z => ?_) (fun z => ?_)
    · replace h := h.1 z
      exact h
    · replace h := h.2 z
      refine aw_aload_n dX10_closesSums_29 rfl rfl ?_
      refine aw_callV (mi := iX10_waitTop) (av := []) (st := []) dX10_closesSums_30 ml_X10_206 kX10_waitTop (by decide) ce_77 clX10 rfl rfl rfl (Nat.le_of_ble_eq_true rfl) (AM.mono h (fun r9 M2 h => ?_))
      obtain ⟨r2, rfl, h⟩ := h
      refine aw_iconst (v := 3) dX10_closesSums_33 (by decide) ?_
      refine aw_icmp_ne (tgt := 59) dX10_closesSums_34 (by decide) (fun z => ?_) (fun z => ?_)
      · replace h := h.1 z
        exact aw_vret dX10_closesSums_59 rfl h
      · replace h := h.2 z
        exact h
theorem bX10_closesSums_37 {d : Nat} {Q : Option Int32 → Mem → Prop} (M : Mem) (x1 : Int32) (h : AMi d iX10_waitTop [.ref 77] M (fun r1 M1 => AMv d iX10_notes [.ref 77, .int r1, .int 0] M1 (fun M2 => AX10_closesSums (d + 1) Q 0 [lR 77, lI x1] [] (wr M2 77 16 ((M2 77 16) - 1))))) : AX10_closesSums (d + 1) Q 37 [lR 77, lI x1] [] M := by
  refine aw_aload_n dX10_closesSums_37 rfl rfl ?_
  refine aw_aload_n dX10_closesSums_38 rfl rfl ?_
  refine aw_callV (mi := iX10_waitTop) (av := []) (st := [.ref 77]) dX10_closesSums_39 ml_X10_206 kX10_waitTop (by decide) ce_77 clX10 rfl rfl rfl (Nat.le_of_ble_eq_true rfl) (AM.mono h (fun r9 M1 h => ?_))
  obtain ⟨r1, rfl, h⟩ := h
  refine aw_iconst (v := 0) dX10_closesSums_42 (by decide) ?_
  refine aw_callV (mi := iX10_notes) (av := [.int r1, .int 0]) (st := []) dX10_closesSums_43 ml_X10_209 kX10_notes (by decide) ce_77 clX10 rfl rfl rfl (Nat.le_of_ble_eq_true rfl) (AM.mono h (fun r9 M2 h => ?_))
  obtain ⟨rfl, h⟩ := h
  refine aw_aload_n dX10_closesSums_46 rfl rfl ?_
  refine aw_aload_n dX10_closesSums_47 rfl rfl ?_
  refine aw_getf dX10_closesSums_48 fl_X10_203 (by decide) ce_77 rfl (v := .int (M2 77 16)) rfl ?_
  refine aw_iconst (v := 1) dX10_closesSums_51 (by decide) ?_
  refine aw_isub dX10_closesSums_52 ?_
  refine aw_putf dX10_closesSums_53 fp_X10_203 (by decide) ce_77 rfl rfl rfl ?_
  refine aw_goto (tgt := 0) dX10_closesSums_56 (by decide) ?_
  exact h
abbrev AX10_readsFactor (d : Nat) (Q : Option Int32 → Mem → Prop) (pc : Nat) (L : List (Option Value)) (st : List Value) (M : Mem) : Prop := AW none RX10 cX10_readsFactor 2 (some .boolean) d Q pc L st M
theorem eX10_readsFactor {d : Nat} {Q : Option Int32 → Mem → Prop} (M : Mem) (h : AX10_readsFactor d Q 0 [lR 77, none] [] M) : AM d iX10_readsFactor [.ref 77] M Q := AM.of2 (by decide) rfl rfl h
theorem bX10_readsFactor_0 {d : Nat} {Q : Option Int32 → Mem → Prop} (M : Mem) (h : AMi d iX10_here [.ref 77] M (fun r1 M1 => (¬ r1 = 91 → AMi d iX10_isDigit [.ref 77] M1 (fun r2 M2 => (r2 = 0 → AMi d iX10_here [.ref 77] M2 (fun r3 M3 => (¬ (factV r3) = (-1) → AMv d iX10_notes [.ref 77, .int 1, .int (factV r3)] M3 (fun M4 => Q (some 1) (wr M4 77 11 ((M4 77 11) + 1)))) ∧ ((factV r3) = (-1) → AMi d iX10_wrongAt [.ref 77, .int 1, .int (M3 77 11)] M3 (fun r5 M5 => (r5 = 0 ∨ r5 = 1) ∧ Q (some r5) M5)))) ∧ (¬ r2 = 0 → AMi d iX10_readsNumber [.ref 77] M2 (fun r6 M6 => (¬ r6 = 0 → AMv d iX10_notes [.ref 77, .int 0, .int (M6 77 18)] M6 (fun M7 => Q (some 1) M7)) ∧ (r6 = 0 → Q (some 0) M6))))) ∧ (r1 = 91 → AMi d iX10_opens [.ref 77, .int 14] M1 (fun r8 M8 => (¬ r8 = 0 → AX10_readsFactor (d + 1) Q 0 [lR 77, none] [] M8) ∧ (r8 = 0 → Q (some 0) M8))))) : AX10_readsFactor (d + 1) Q 0 [lR 77, none] [] M := by
  refine aw_aload_n dX10_readsFactor_0 rfl rfl ?_
  refine aw_callV (mi := iX10_here) (av := []) (st := []) dX10_readsFactor_1 ml_X10_180 kX10_here (by decide) ce_77 clX10 rfl rfl rfl (Nat.le_of_ble_eq_true rfl) (AM.mono h (fun r9 M1 h => ?_))
  obtain ⟨r1, rfl, h⟩ := h
  refine aw_bipush (v := 91) dX10_readsFactor_4 (by decide) ?_
  refine aw_icmp_ne (tgt := 20) dX10_readsFactor_6 (by decide) (fun z => ?_) (fun z => ?_)
  · replace h := h.1 z
    refine aw_aload_n dX10_readsFactor_20 rfl rfl ?_
    refine aw_callV (mi := iX10_isDigit) (av := []) (st := []) dX10_readsFactor_21 ml_X10_192 kX10_isDigit (by decide) ce_77 clX10 rfl rfl rfl (Nat.le_of_ble_eq_true rfl) (AM.mono h (fun r9 M2 h => ?_))
    obtain ⟨r2, rfl, h⟩ := h
    refine aw_if_eq (tgt := 47) dX10_readsFactor_24 (by decide) (fun z => ?_) (fun z => ?_)
    · replace h := h.1 z
      refine aw_aload_n dX10_readsFactor_47 rfl rfl ?_
      refine aw_callV (mi := iX10_here) (av := []) (st := []) dX10_readsFactor_48 ml_X10_180 kX10_here (by decide) ce_77 clX10 rfl rfl rfl (Nat.le_of_ble_eq_true rfl) (AM.mono h (fun r9 M3 h => ?_))
      obtain ⟨r3, rfl, h⟩ := h
      refine aw_callS (mi := iX10_factOf) (av := [.int r3]) (st := []) dX10_readsFactor_51 ml_X10_219 kX10_factOf rfl rfl (Nat.le_of_ble_eq_true rfl) (AM.mono (p_X10_factOf _) (fun r9 M9 e9 => ?_))
      obtain ⟨rfl, rfl⟩ := e9
      refine aw_istore_n (L2 := [lR 77, lI (factV r3)]) dX10_readsFactor_54 rfl (by decide) rfl ?_
      refine aw_iload_n dX10_readsFactor_55 rfl rfl ?_
      refine aw_iconst (v := (-1)) dX10_readsFactor_56 (by decide) ?_
      refine aw_icmp_ne (tgt := 70) dX10_readsFactor_57 (by decide) (fun z => ?_) (fun z => ?_)
      · replace h := h.1 z
        refine aw_aload_n dX10_readsFactor_70 rfl rfl ?_
        refine aw_iconst (v := 1) dX10_readsFactor_71 (by decide) ?_
        refine aw_iload_n dX10_readsFactor_72 rfl rfl ?_
        refine aw_callV (mi := iX10_notes) (av := [.int 1, .int (factV r3)]) (st := []) dX10_readsFactor_73 ml_X10_209 kX10_notes (by decide) ce_77 clX10 rfl rfl rfl (Nat.le_of_ble_eq_true rfl) (AM.mono h (fun r9 M4 h => ?_))
        obtain ⟨rfl, h⟩ := h
        refine aw_aload_n dX10_readsFactor_76 rfl rfl ?_
        refine aw_aload_n dX10_readsFactor_77 rfl rfl ?_
        refine aw_getf dX10_readsFactor_78 fl_X10_174 (by decide) ce_77 rfl (v := .int (M4 77 11)) rfl ?_
        refine aw_iconst (v := 1) dX10_readsFactor_81 (by decide) ?_
        refine aw_iadd dX10_readsFactor_82 ?_
        refine aw_putf dX10_readsFactor_83 fp_X10_174 (by decide) ce_77 rfl rfl rfl ?_
        refine aw_iconst (v := 1) dX10_readsFactor_86 (by decide) ?_
        exact aw_iret dX10_readsFactor_87 rfl (nar_b (by decide)) h
      · replace h := h.2 z
        refine aw_aload_n dX10_readsFactor_60 rfl rfl ?_
        refine aw_iconst (v := 1) dX10_readsFactor_61 (by decide) ?_
        refine aw_aload_n dX10_readsFactor_62 rfl rfl ?_
        refine aw_getf dX10_readsFactor_63 fl_X10_174 (by decide) ce_77 rfl (v := .int (M3 77 11)) rfl ?_
        refine aw_callV (mi := iX10_wrongAt) (av := [.int 1, .int (M3 77 11)]) (st := []) dX10_readsFactor_66 ml_X10_186 kX10_wrongAt (by decide) ce_77 clX10 rfl rfl rfl (Nat.le_of_ble_eq_true rfl) (AM.mono h (fun r9 M5 h => ?_))
        obtain ⟨r5, rfl, h⟩ := h
        exact aw_iret dX10_readsFactor_69 rfl (nar_b h.1) h.2
    · replace h := h.2 z
      refine aw_aload_n dX10_readsFactor_27 rfl rfl ?_
      refine aw_callV (mi := iX10_readsNumber) (av := []) (st := []) dX10_readsFactor_28 ml_X10_216 kX10_readsNumber (by decide) ce_77 clX10 rfl rfl rfl (Nat.le_of_ble_eq_true rfl) (AM.mono h (fun r9 M6 h => ?_))
      obtain ⟨r6, rfl, h⟩ := h
      refine aw_if_ne (tgt := 36) dX10_readsFactor_31 (by decide) (fun z => ?_) (fun z => ?_)
      · replace h := h.1 z
        refine aw_aload_n dX10_readsFactor_36 rfl rfl ?_
        refine aw_iconst (v := 0) dX10_readsFactor_37 (by decide) ?_
        refine aw_aload_n dX10_readsFactor_38 rfl rfl ?_
        refine aw_getf dX10_readsFactor_39 fl_X10_189 (by decide) ce_77 rfl (v := .int (M6 77 18)) rfl ?_
        refine aw_callV (mi := iX10_notes) (av := [.int 0, .int (M6 77 18)]) (st := []) dX10_readsFactor_42 ml_X10_209 kX10_notes (by decide) ce_77 clX10 rfl rfl rfl (Nat.le_of_ble_eq_true rfl) (AM.mono h (fun r9 M7 h => ?_))
        obtain ⟨rfl, h⟩ := h
        refine aw_iconst (v := 1) dX10_readsFactor_45 (by decide) ?_
        exact aw_iret dX10_readsFactor_46 rfl (nar_b (by decide)) h
      · replace h := h.2 z
        refine aw_iconst (v := 0) dX10_readsFactor_34 (by decide) ?_
        exact aw_iret dX10_readsFactor_35 rfl (nar_b (by decide)) h
  · replace h := h.2 z
    refine aw_aload_n dX10_readsFactor_9 rfl rfl ?_
    refine aw_bipush (v := 14) dX10_readsFactor_10 (by decide) ?_
    refine aw_callV (mi := iX10_opens) (av := [.int 14]) (st := []) dX10_readsFactor_12 ml_X10_213 kX10_opens (by decide) ce_77 clX10 rfl rfl rfl (Nat.le_of_ble_eq_true rfl) (AM.mono h (fun r9 M8 h => ?_))
    obtain ⟨r8, rfl, h⟩ := h
    refine aw_if_ne (tgt := 0) dX10_readsFactor_15 (by decide) (fun z => ?_) (fun z => ?_)
    · replace h := h.1 z
      exact h
    · replace h := h.2 z
      refine aw_iconst (v := 0) dX10_readsFactor_18 (by decide) ?_
      exact aw_iret dX10_readsFactor_19 rfl (nar_b (by decide)) h
abbrev AX10_hasOpenSum (d : Nat) (Q : Option Int32 → Mem → Prop) (pc : Nat) (L : List (Option Value)) (st : List Value) (M : Mem) : Prop := AW none RX10 cX10_hasOpenSum 3 (some .boolean) d Q pc L st M
theorem eX10_hasOpenSum {d : Nat} {Q : Option Int32 → Mem → Prop} (M : Mem) (x1 : Int32) (h : AX10_hasOpenSum d Q 0 [lR 77, lI x1, none] [] M) : AM d iX10_hasOpenSum [.ref 77, .int x1] M Q := AM.of2 (by decide) rfl rfl h
theorem bX10_hasOpenSum_0 {d : Nat} {Q : Option Int32 → Mem → Prop} (M : Mem) (x1 : Int32) (h : AX10_hasOpenSum d Q 2 [lR 77, none, lI x1] [] M) : AX10_hasOpenSum d Q 0 [lR 77, lI x1, none] [] M := by
  refine aw_iload_n dX10_hasOpenSum_0 rfl rfl ?_
  refine aw_istore_n (L2 := [lR 77, lI x1, lI x1]) dX10_hasOpenSum_1 rfl (by decide) rfl ?_
  exact aw_less (less_k (less_d (less_k less_nil))) h
theorem bX10_hasOpenSum_2 {d : Nat} {Q : Option Int32 → Mem → Prop} (M : Mem) (x2 : Int32) (h : ((M 77 16) ≤ x2 → Q (some 0) M) ∧ (¬ (M 77 16) ≤ x2 → (vp_in x2 180) ∧ ((¬ ((M 85 (ix x2)) / 1048576) = 14 → AX10_hasOpenSum d Q 2 [lR 77, none, lI (x2 + 1)] [] M) ∧ (((M 85 (ix x2)) / 1048576) = 14 → Q (some 1) M)))) : AX10_hasOpenSum d Q 2 [lR 77, none, lI x2] [] M := by
  refine aw_iload_n dX10_hasOpenSum_2 rfl rfl ?_
  refine aw_aload_n dX10_hasOpenSum_3 rfl rfl ?_
  refine aw_getf dX10_hasOpenSum_4 fl_X10_203 (by decide) ce_77 rfl (v := .int (M 77 16)) rfl ?_
  refine aw_icmp_ge (tgt := 32) dX10_hasOpenSum_7 (by decide) (fun z => ?_) (fun z => ?_)
  · replace h := h.1 z
    refine aw_iconst (v := 0) dX10_hasOpenSum_32 (by decide) ?_
    exact aw_iret dX10_hasOpenSum_33 rfl (nar_b (by decide)) h
  · replace h := h.2 z
    refine aw_aload_n dX10_hasOpenSum_10 rfl rfl ?_
    refine aw_getf dX10_hasOpenSum_11 fl_X10_32 (by decide) ce_77 rfl (v := .ref 85) rfl ?_
    refine aw_iload_n dX10_hasOpenSum_14 rfl rfl ?_
    obtain ⟨h9, h⟩ := h
    refine aw_iald dX10_hasOpenSum_15 (by decide) ce_85 h9 ?_
    refine aw_ldc dX10_hasOpenSum_16 kc_X10_199 ?_
    refine aw_idiv dX10_hasOpenSum_18 (by decide) ?_
    refine aw_bipush (v := 14) dX10_hasOpenSum_19 (by decide) ?_
    refine aw_icmp_ne (tgt := 26) dX10_hasOpenSum_21 (by decide) (fun z => ?_) (fun z => ?_)
    · replace h := h.1 z
      refine aw_iinc (y := 1) (L2 := [lR 77, none, lI (x2 + 1)]) dX10_hasOpenSum_26 rfl (by decide) (by decide) rfl ?_
      refine aw_goto (tgt := 2) dX10_hasOpenSum_29 (by decide) ?_
      exact h
    · replace h := h.2 z
      refine aw_iconst (v := 1) dX10_hasOpenSum_24 (by decide) ?_
      exact aw_iret dX10_hasOpenSum_25 rfl (nar_b (by decide)) h
abbrev AX10_readsSum (d : Nat) (Q : Option Int32 → Mem → Prop) (pc : Nat) (L : List (Option Value)) (st : List Value) (M : Mem) : Prop := AW none RX10 cX10_readsSum 3 (some .boolean) d Q pc L st M
theorem eX10_readsSum {d : Nat} {Q : Option Int32 → Mem → Prop} (M : Mem) (h : AX10_readsSum d Q 0 [lR 77, none, none] [] M) : AM d iX10_readsSum [.ref 77] M Q := AM.of2 (by decide) rfl rfl h
theorem bX10_readsSum_0 {d : Nat} {Q : Option Int32 → Mem → Prop} (M : Mem) (h : AMi d iX10_readsFactor [.ref 77] M (fun r1 M1 => (¬ r1 = 0 → AX10_readsSum (d + 1) Q 14 [lR 77, lI (M 77 16), none] [] M1) ∧ (r1 = 0 → Q (some 0) M1))) : AX10_readsSum (d + 1) Q 0 [lR 77, none, none] [] M := by
  refine aw_aload_n dX10_readsSum_0 rfl rfl ?_
  refine aw_getf dX10_readsSum_1 fl_X10_203 (by decide) ce_77 rfl (v := .int (M 77 16)) rfl ?_
  refine aw_istore_n (L2 := [lR 77, lI (M 77 16), none]) dX10_readsSum_4 rfl (by decide) rfl ?_
  refine aw_aload_n dX10_readsSum_5 rfl rfl ?_
  refine aw_callV (mi := iX10_readsFactor) (av := []) (st := []) dX10_readsSum_6 ml_X10_222 kX10_readsFactor (by decide) ce_77 clX10 rfl rfl rfl (Nat.le_of_ble_eq_true rfl) (AM.mono h (fun r9 M1 h => ?_))
  obtain ⟨r1, rfl, h⟩ := h
  refine aw_if_ne (tgt := 14) dX10_readsSum_9 (by decide) (fun z => ?_) (fun z => ?_)
  · replace h := h.1 z
    exact h
  · replace h := h.2 z
    refine aw_iconst (v := 0) dX10_readsSum_12 (by decide) ?_
    exact aw_iret dX10_readsSum_13 rfl (nar_b (by decide)) h
theorem bX10_readsSum_14 {d : Nat} {Q : Option Int32 → Mem → Prop} (M : Mem) (x1 : Int32) (h : AMi d iX10_here [.ref 77] M (fun r1 M1 => ((signV r1) = (-1) → AMi d iX10_here [.ref 77] M1 (fun r2 M2 => (¬ r2 = 93 → AX10_readsSum (d + 1) Q 138 [lR 77, lI x1, none] [] M2) ∧ (r2 = 93 → AMi d iX10_hasOpenSum [.ref 77, .int x1] M2 (fun r3 M3 => (r3 = 0 → AX10_readsSum (d + 1) Q 138 [lR 77, lI x1, none] [] M3) ∧ (¬ r3 = 0 → AMv d iX10_closesSums [.ref 77, .int 1] M3 (fun M4 => AX10_readsSum (d + 1) Q 14 [lR 77, lI x1, none] [] (wr (wr (wr M4 77 16 ((M4 77 16) - 1)) 77 14 ((M4 77 14) - 1)) 77 11 ((M4 77 11) + 1)))))))) ∧ (¬ (signV r1) = (-1) → (4 ≤ (signV r1) → AX10_readsSum (d + 1) Q 38 [lR 77, lI x1, lI (signV r1)] [.int 0, .ref 77] M1) ∧ (¬ 4 ≤ (signV r1) → AX10_readsSum (d + 1) Q 38 [lR 77, lI x1, lI (signV r1)] [.int 1, .ref 77] M1)))) : AX10_readsSum (d + 1) Q 14 [lR 77, lI x1, none] [] M := by
  refine aw_aload_n dX10_readsSum_14 rfl rfl ?_
  refine aw_callV (mi := iX10_here) (av := []) (st := []) dX10_readsSum_15 ml_X10_180 kX10_here (by decide) ce_77 clX10 rfl rfl rfl (Nat.le_of_ble_eq_true rfl) (AM.mono h (fun r9 M1 h => ?_))
  obtain ⟨r1, rfl, h⟩ := h
  refine aw_callS (mi := iX10_sumSign) (av := [.int r1]) (st := []) dX10_readsSum_18 ml_X10_225 kX10_sumSign rfl rfl (Nat.le_of_ble_eq_true rfl) (AM.mono (p_X10_sumSign _) (fun r9 M9 e9 => ?_))
  obtain ⟨rfl, rfl⟩ := e9
  refine aw_istore_n (L2 := [lR 77, lI x1, lI (signV r1)]) dX10_readsSum_21 rfl (by decide) rfl ?_
  refine aw_iload_n dX10_readsSum_22 rfl rfl ?_
  refine aw_iconst (v := (-1)) dX10_readsSum_23 (by decide) ?_
  refine aw_icmp_eq (tgt := 83) dX10_readsSum_24 (by decide) (fun z => ?_) (fun z => ?_)
  · replace h := h.1 z
    refine aw_aload_n dX10_readsSum_83 rfl rfl ?_
    refine aw_callV (mi := iX10_here) (av := []) (st := []) dX10_readsSum_84 ml_X10_180 kX10_here (by decide) ce_77 clX10 rfl rfl rfl (Nat.le_of_ble_eq_true rfl) (AM.mono h (fun r9 M2 h => ?_))
    obtain ⟨r2, rfl, h⟩ := h
    refine aw_bipush (v := 93) dX10_readsSum_87 (by decide) ?_
    refine aw_icmp_ne (tgt := 138) dX10_readsSum_89 (by decide) (fun z => ?_) (fun z => ?_)
    · replace h := h.1 z
      exact aw_less (less_k (less_k (less_d less_nil))) h
    · replace h := h.2 z
      refine aw_aload_n dX10_readsSum_92 rfl rfl ?_
      refine aw_iload_n dX10_readsSum_93 rfl rfl ?_
      refine aw_callV (mi := iX10_hasOpenSum) (av := [.int x1]) (st := []) dX10_readsSum_94 ml_X10_232 kX10_hasOpenSum (by decide) ce_77 clX10 rfl rfl rfl (Nat.le_of_ble_eq_true rfl) (AM.mono h (fun r9 M3 h => ?_))
      obtain ⟨r3, rfl, h⟩ := h
      refine aw_if_eq (tgt := 138) dX10_readsSum_97 (by decide) (fun z => ?_) (fun z => ?_)
      · replace h := h.1 z
        exact aw_less (less_k (less_k (less_d less_nil))) h
      · replace h := h.2 z
        refine aw_aload_n dX10_readsSum_100 rfl rfl ?_
        refine aw_iconst (v := 1) dX10_readsSum_101 (by decide) ?_
        refine aw_callV (mi := iX10_closesSums) (av := [.int 1]) (st := []) dX10_readsSum_102 ml_X10_228 kX10_closesSums (by decide) ce_77 clX10 rfl rfl rfl (Nat.le_of_ble_eq_true rfl) (AM.mono h (fun r9 M4 h => ?_))
        obtain ⟨rfl, h⟩ := h
        refine aw_aload_n dX10_readsSum_105 rfl rfl ?_
        refine aw_aload_n dX10_readsSum_106 rfl rfl ?_
        refine aw_getf dX10_readsSum_107 fl_X10_203 (by decide) ce_77 rfl (v := .int (M4 77 16)) rfl ?_
        refine aw_iconst (v := 1) dX10_readsSum_110 (by decide) ?_
        refine aw_isub dX10_readsSum_111 ?_
        refine aw_putf dX10_readsSum_112 fp_X10_203 (by decide) ce_77 rfl rfl rfl ?_
        refine aw_aload_n dX10_readsSum_115 rfl rfl ?_
        refine aw_aload_n dX10_readsSum_116 rfl rfl ?_
        refine aw_getf dX10_readsSum_117 fl_X10_200 (by decide) ce_77 rfl (v := .int (M4 77 14)) rfl ?_
        refine aw_iconst (v := 1) dX10_readsSum_120 (by decide) ?_
        refine aw_isub dX10_readsSum_121 ?_
        refine aw_putf dX10_readsSum_122 fp_X10_200 (by decide) ce_77 rfl rfl rfl ?_
        refine aw_aload_n dX10_readsSum_125 rfl rfl ?_
        refine aw_aload_n dX10_readsSum_126 rfl rfl ?_
        refine aw_getf dX10_readsSum_127 fl_X10_174 (by decide) ce_77 rfl (v := .int (M4 77 11)) rfl ?_
        refine aw_iconst (v := 1) dX10_readsSum_130 (by decide) ?_
        refine aw_iadd dX10_readsSum_131 ?_
        refine aw_putf dX10_readsSum_132 fp_X10_174 (by decide) ce_77 rfl rfl rfl ?_
        refine aw_goto (tgt := 163) dX10_readsSum_135 (by decide) ?_
        refine aw_goto (tgt := 14) dX10_readsSum_163 (by decide) ?_
        exact aw_less (less_k (less_k (less_d less_nil))) h
  · replace h := h.2 z
    refine aw_aload_n dX10_readsSum_27 rfl rfl ?_
    refine aw_iload_n dX10_readsSum_28 rfl rfl ?_
    refine aw_iconst (v := 4) dX10_readsSum_29 (by decide) ?_
    refine aw_icmp_ge (tgt := 37) dX10_readsSum_30 (by decide) (fun z => ?_) (fun z => ?_)
    · replace h := h.1 z
      refine aw_iconst (v := 0) dX10_readsSum_37 (by decide) ?_
      exact h
    · replace h := h.2 z
      refine aw_iconst (v := 1) dX10_readsSum_33 (by decide) ?_
      refine aw_goto (tgt := 38) dX10_readsSum_34 (by decide) ?_
      exact h
theorem bX10_readsSum_38 {d : Nat} {Q : Option Int32 → Mem → Prop} (M : Mem) (x1 x2 s0 : Int32) (h : AMv d iX10_closesSums [.ref 77, .int s0] M (fun M1 => (vp_in (M1 77 16) 180) ∧ (AMi d iX10_readsFactor [.ref 77] (wr (wr (wr M1 85 (ix (M1 77 16)) (1048576 * x2)) 77 16 ((M1 77 16) + 1)) 77 11 ((M1 77 11) + 1)) (fun r2 M2 => (¬ r2 = 0 → AX10_readsSum (d + 1) Q 14 [lR 77, lI x1, none] [] M2) ∧ (r2 = 0 → Q (some 0) M2))))) : AX10_readsSum (d + 1) Q 38 [lR 77, lI x1, lI x2] [.int s0, .ref 77] M := by
  refine aw_callV (mi := iX10_closesSums) (av := [.int s0]) (st := []) dX10_readsSum_38 ml_X10_228 kX10_closesSums (by decide) ce_77 clX10 rfl rfl rfl (Nat.le_of_ble_eq_true rfl) (AM.mono h (fun r9 M1 h => ?_))
  obtain ⟨rfl, h⟩ := h
  refine aw_aload_n dX10_readsSum_41 rfl rfl ?_
  refine aw_getf dX10_readsSum_42 fl_X10_32 (by decide) ce_77 rfl (v := .ref 85) rfl ?_
  refine aw_aload_n dX10_readsSum_45 rfl rfl ?_
  refine aw_getf dX10_readsSum_46 fl_X10_203 (by decide) ce_77 rfl (v := .int (M1 77 16)) rfl ?_
  refine aw_ldc dX10_readsSum_49 kc_X10_199 ?_
  refine aw_iload_n dX10_readsSum_51 rfl rfl ?_
  refine aw_imul dX10_readsSum_52 ?_
  obtain ⟨h9, h⟩ := h
  refine aw_iast dX10_readsSum_53 (by decide) ce_85 h9 ?_
  refine aw_aload_n dX10_readsSum_54 rfl rfl ?_
  refine aw_aload_n dX10_readsSum_55 rfl rfl ?_
  refine aw_getf dX10_readsSum_56 fl_X10_203 (by decide) ce_77 rfl (v := .int (M1 77 16)) rfl ?_
  refine aw_iconst (v := 1) dX10_readsSum_59 (by decide) ?_
  refine aw_iadd dX10_readsSum_60 ?_
  refine aw_putf dX10_readsSum_61 fp_X10_203 (by decide) ce_77 rfl rfl rfl ?_
  refine aw_aload_n dX10_readsSum_64 rfl rfl ?_
  refine aw_aload_n dX10_readsSum_65 rfl rfl ?_
  refine aw_getf dX10_readsSum_66 fl_X10_174 (by decide) ce_77 rfl (v := .int (M1 77 11)) rfl ?_
  refine aw_iconst (v := 1) dX10_readsSum_69 (by decide) ?_
  refine aw_iadd dX10_readsSum_70 ?_
  refine aw_putf dX10_readsSum_71 fp_X10_174 (by decide) ce_77 rfl rfl rfl ?_
  refine aw_aload_n dX10_readsSum_74 rfl rfl ?_
  refine aw_callV (mi := iX10_readsFactor) (av := []) (st := []) dX10_readsSum_75 ml_X10_222 kX10_readsFactor (by decide) ce_77 clX10 rfl rfl rfl (Nat.le_of_ble_eq_true rfl) (AM.mono h (fun r9 M2 h => ?_))
  obtain ⟨r2, rfl, h⟩ := h
  refine aw_if_ne (tgt := 163) dX10_readsSum_78 (by decide) (fun z => ?_) (fun z => ?_)
  · replace h := h.1 z
    refine aw_goto (tgt := 14) dX10_readsSum_163 (by decide) ?_
    exact aw_less (less_k (less_k (less_d less_nil))) h
  · replace h := h.2 z
    refine aw_iconst (v := 0) dX10_readsSum_81 (by decide) ?_
    exact aw_iret dX10_readsSum_82 rfl (nar_b (by decide)) h
theorem bX10_readsSum_138 {d : Nat} {Q : Option Int32 → Mem → Prop} (M : Mem) (x1 : Int32) (h : AMi d iX10_hasOpenSum [.ref 77, .int x1] M (fun r1 M1 => (r1 = 0 → AMv d iX10_closesSums [.ref 77, .int 1] M1 (fun M2 => Q (some 1) M2)) ∧ (¬ r1 = 0 → AMi d iX10_wrongAt [.ref 77, .int 1, .int (M1 77 11)] M1 (fun r3 M3 => (r3 = 0 ∨ r3 = 1) ∧ Q (some r3) M3)))) : AX10_readsSum (d + 1) Q 138 [lR 77, lI x1, none] [] M := by
  refine aw_aload_n dX10_readsSum_138 rfl rfl ?_
  refine aw_iload_n dX10_readsSum_139 rfl rfl ?_
  refine aw_callV (mi := iX10_hasOpenSum) (av := [.int x1]) (st := []) dX10_readsSum_140 ml_X10_232 kX10_hasOpenSum (by decide) ce_77 clX10 rfl rfl rfl (Nat.le_of_ble_eq_true rfl) (AM.mono h (fun r9 M1 h => ?_))
  obtain ⟨r1, rfl, h⟩ := h
  refine aw_if_eq (tgt := 156) dX10_readsSum_143 (by decide) (fun z => ?_) (fun z => ?_)
  · replace h := h.1 z
    refine aw_aload_n dX10_readsSum_156 rfl rfl ?_
    refine aw_iconst (v := 1) dX10_readsSum_157 (by decide) ?_
    refine aw_callV (mi := iX10_closesSums) (av := [.int 1]) (st := []) dX10_readsSum_158 ml_X10_228 kX10_closesSums (by decide) ce_77 clX10 rfl rfl rfl (Nat.le_of_ble_eq_true rfl) (AM.mono h (fun r9 M2 h => ?_))
    obtain ⟨rfl, h⟩ := h
    refine aw_iconst (v := 1) dX10_readsSum_161 (by decide) ?_
    exact aw_iret dX10_readsSum_162 rfl (nar_b (by decide)) h
  · replace h := h.2 z
    refine aw_aload_n dX10_readsSum_146 rfl rfl ?_
    refine aw_iconst (v := 1) dX10_readsSum_147 (by decide) ?_
    refine aw_aload_n dX10_readsSum_148 rfl rfl ?_
    refine aw_getf dX10_readsSum_149 fl_X10_174 (by decide) ce_77 rfl (v := .int (M1 77 11)) rfl ?_
    refine aw_callV (mi := iX10_wrongAt) (av := [.int 1, .int (M1 77 11)]) (st := []) dX10_readsSum_152 ml_X10_186 kX10_wrongAt (by decide) ce_77 clX10 rfl rfl rfl (Nat.le_of_ble_eq_true rfl) (AM.mono h (fun r9 M3 h => ?_))
    obtain ⟨r3, rfl, h⟩ := h
    exact aw_iret dX10_readsSum_155 rfl (nar_b h.1) h.2
abbrev AX10_endsPiece (d : Nat) (Q : Option Int32 → Mem → Prop) (pc : Nat) (L : List (Option Value)) (st : List Value) (M : Mem) : Prop := AW none RX10 cX10_endsPiece 1 none d Q pc L st M
theorem eX10_endsPiece {d : Nat} {Q : Option Int32 → Mem → Prop} (M : Mem) (h : AX10_endsPiece d Q 0 [lR 77] [] M) : AM d iX10_endsPiece [.ref 77] M Q := AM.of2 (by decide) rfl rfl h
theorem bX10_endsPiece_0 {d : Nat} {Q : Option Int32 → Mem → Prop} (M : Mem) (h : AMi d iX10_waitTop [.ref 77] M (fun r1 M1 => (¬ r1 = 10 → Q none M1) ∧ (r1 = 10 → AMv d iX10_notes [.ref 77, .int 10, .int 0] M1 (fun M2 => AX10_endsPiece (d + 1) Q 0 [lR 77] [] (wr (wr M2 77 16 ((M2 77 16) - 1)) 77 14 ((M2 77 14) - 1)))))) : AX10_endsPiece (d + 1) Q 0 [lR 77] [] M := by
  refine aw_aload_n dX10_endsPiece_0 rfl rfl ?_
  refine aw_callV (mi := iX10_waitTop) (av := []) (st := []) dX10_endsPiece_1 ml_X10_206 kX10_waitTop (by decide) ce_77 clX10 rfl rfl rfl (Nat.le_of_ble_eq_true rfl) (AM.mono h (fun r9 M1 h => ?_))
  obtain ⟨r1, rfl, h⟩ := h
  refine aw_bipush (v := 10) dX10_endsPiece_4 (by decide) ?_
  refine aw_icmp_ne (tgt := 39) dX10_endsPiece_6 (by decide) (fun z => ?_) (fun z => ?_)
  · replace h := h.1 z
    exact aw_vret dX10_endsPiece_39 rfl h
  · replace h := h.2 z
    refine aw_aload_n dX10_endsPiece_9 rfl rfl ?_
    refine aw_bipush (v := 10) dX10_endsPiece_10 (by decide) ?_
    refine aw_iconst (v := 0) dX10_endsPiece_12 (by decide) ?_
    refine aw_callV (mi := iX10_notes) (av := [.int 10, .int 0]) (st := []) dX10_endsPiece_13 ml_X10_209 kX10_notes (by decide) ce_77 clX10 rfl rfl rfl (Nat.le_of_ble_eq_true rfl) (AM.mono h (fun r9 M2 h => ?_))
    obtain ⟨rfl, h⟩ := h
    refine aw_aload_n dX10_endsPiece_16 rfl rfl ?_
    refine aw_aload_n dX10_endsPiece_17 rfl rfl ?_
    refine aw_getf dX10_endsPiece_18 fl_X10_203 (by decide) ce_77 rfl (v := .int (M2 77 16)) rfl ?_
    refine aw_iconst (v := 1) dX10_endsPiece_21 (by decide) ?_
    refine aw_isub dX10_endsPiece_22 ?_
    refine aw_putf dX10_endsPiece_23 fp_X10_203 (by decide) ce_77 rfl rfl rfl ?_
    refine aw_aload_n dX10_endsPiece_26 rfl rfl ?_
    refine aw_aload_n dX10_endsPiece_27 rfl rfl ?_
    refine aw_getf dX10_endsPiece_28 fl_X10_200 (by decide) ce_77 rfl (v := .int (M2 77 14)) rfl ?_
    refine aw_iconst (v := 1) dX10_endsPiece_31 (by decide) ?_
    refine aw_isub dX10_endsPiece_32 ?_
    refine aw_putf dX10_endsPiece_33 fp_X10_200 (by decide) ce_77 rfl rfl rfl ?_
    refine aw_goto (tgt := 0) dX10_endsPiece_36 (by decide) ?_
    exact h
abbrev AX10_lands (d : Nat) (Q : Option Int32 → Mem → Prop) (pc : Nat) (L : List (Option Value)) (st : List Value) (M : Mem) : Prop := AW none RX10 cX10_lands 3 none d Q pc L st M
theorem eX10_lands {d : Nat} {Q : Option Int32 → Mem → Prop} (M : Mem) (x1 : Int32) (h : AX10_lands d Q 0 [lR 77, lI x1, none] [] M) : AM d iX10_lands [.ref 77, .int x1] M Q := AM.of2 (by decide) rfl rfl h
theorem bX10_lands_0 {d : Nat} {Q : Option Int32 → Mem → Prop} (M : Mem) (x1 : Int32) (h : AMi d iX10_waitTop [.ref 77] M (fun r1 M1 => (r1 = 11 → AX10_lands (d + 1) Q 22 [lR 77, lI x1, none] [] M1) ∧ (¬ r1 = 11 → (x1 = 0 → Q none M1) ∧ (¬ x1 = 0 → AMi d iX10_waitTop [.ref 77] M1 (fun r2 M2 => (¬ r2 = 12 → Q none M2) ∧ (r2 = 12 → AX10_lands (d + 1) Q 22 [lR 77, lI x1, none] [] M2)))))) : AX10_lands (d + 1) Q 0 [lR 77, lI x1, none] [] M := by
  refine aw_aload_n dX10_lands_0 rfl rfl ?_
  refine aw_callV (mi := iX10_waitTop) (av := []) (st := []) dX10_lands_1 ml_X10_206 kX10_waitTop (by decide) ce_77 clX10 rfl rfl rfl (Nat.le_of_ble_eq_true rfl) (AM.mono h (fun r9 M1 h => ?_))
  obtain ⟨r1, rfl, h⟩ := h
  refine aw_bipush (v := 11) dX10_lands_4 (by decide) ?_
  refine aw_icmp_eq (tgt := 22) dX10_lands_6 (by decide) (fun z => ?_) (fun z => ?_)
  · replace h := h.1 z
    exact h
  · replace h := h.2 z
    refine aw_iload_n dX10_lands_9 rfl rfl ?_
    refine aw_if_eq (tgt := 73) dX10_lands_10 (by decide) (fun z => ?_) (fun z => ?_)
    · replace h := h.1 z
      exact aw_vret dX10_lands_73 rfl h
    · replace h := h.2 z
      refine aw_aload_n dX10_lands_13 rfl rfl ?_
      refine aw_callV (mi := iX10_waitTop) (av := []) (st := []) dX10_lands_14 ml_X10_206 kX10_waitTop (by decide) ce_77 clX10 rfl rfl rfl (Nat.le_of_ble_eq_true rfl) (AM.mono h (fun r9 M2 h => ?_))
      obtain ⟨r2, rfl, h⟩ := h
      refine aw_bipush (v := 12) dX10_lands_17 (by decide) ?_
      refine aw_icmp_ne (tgt := 73) dX10_lands_19 (by decide) (fun z => ?_) (fun z => ?_)
      · replace h := h.1 z
        exact aw_vret dX10_lands_73 rfl h
      · replace h := h.2 z
        exact h
theorem bX10_lands_22 {d : Nat} {Q : Option Int32 → Mem → Prop} (M : Mem) (x1 : Int32) (h : (vp_in ((M 77 16) - 1) 180) ∧ ((vp_in ((M 85 (ix ((M 77 16) - 1))) - (M 85 (ix ((M 77 16) - 1))) / 1048576 * 1048576) 180) ∧ ((vp_in ((M 85 (ix ((M 77 16) - 1))) - (M 85 (ix ((M 77 16) - 1))) / 1048576 * 1048576) 180) ∧ (AX10_lands (d + 1) Q 0 [lR 77, lI x1, none] [] (wr (wr M 84 (ix ((M 85 (ix ((M 77 16) - 1))) - (M 85 (ix ((M 77 16) - 1))) / 1048576 * 1048576)) ((1048576 * ((M 84 (ix ((M 85 (ix ((M 77 16) - 1))) - (M 85 (ix ((M 77 16) - 1))) / 1048576 * 1048576))) / 1048576)) + (M 77 15))) 77 16 ((M 77 16) - 1)))))) : AX10_lands (d + 1) Q 22 [lR 77, lI x1, none] [] M := by
  refine aw_aload_n dX10_lands_22 rfl rfl ?_
  refine aw_getf dX10_lands_23 fl_X10_32 (by decide) ce_77 rfl (v := .ref 85) rfl ?_
  refine aw_aload_n dX10_lands_26 rfl rfl ?_
  refine aw_getf dX10_lands_27 fl_X10_203 (by decide) ce_77 rfl (v := .int (M 77 16)) rfl ?_
  refine aw_iconst (v := 1) dX10_lands_30 (by decide) ?_
  refine aw_isub dX10_lands_31 ?_
  obtain ⟨h9, h⟩ := h
  refine aw_iald dX10_lands_32 (by decide) ce_85 h9 ?_
  refine aw_ldc dX10_lands_33 kc_X10_199 ?_
  refine aw_irem dX10_lands_35 (by decide) ?_
  refine aw_istore_n (L2 := [lR 77, lI x1, lI ((M 85 (ix ((M 77 16) - 1))) - (M 85 (ix ((M 77 16) - 1))) / 1048576 * 1048576)]) dX10_lands_36 rfl (by decide) rfl ?_
  refine aw_aload_n dX10_lands_37 rfl rfl ?_
  refine aw_getf dX10_lands_38 fl_X10_29 (by decide) ce_77 rfl (v := .ref 84) rfl ?_
  refine aw_iload_n dX10_lands_41 rfl rfl ?_
  refine aw_ldc dX10_lands_42 kc_X10_199 ?_
  refine aw_aload_n dX10_lands_44 rfl rfl ?_
  refine aw_getf dX10_lands_45 fl_X10_29 (by decide) ce_77 rfl (v := .ref 84) rfl ?_
  refine aw_iload_n dX10_lands_48 rfl rfl ?_
  obtain ⟨h9, h⟩ := h
  refine aw_iald dX10_lands_49 (by decide) ce_84 h9 ?_
  refine aw_ldc dX10_lands_50 kc_X10_199 ?_
  refine aw_idiv dX10_lands_52 (by decide) ?_
  refine aw_imul dX10_lands_53 ?_
  refine aw_aload_n dX10_lands_54 rfl rfl ?_
  refine aw_getf dX10_lands_55 fl_X10_196 (by decide) ce_77 rfl (v := .int (M 77 15)) rfl ?_
  refine aw_iadd dX10_lands_58 ?_
  obtain ⟨h9, h⟩ := h
  refine aw_iast dX10_lands_59 (by decide) ce_84 h9 ?_
  refine aw_aload_n dX10_lands_60 rfl rfl ?_
  refine aw_aload_n dX10_lands_61 rfl rfl ?_
  refine aw_getf dX10_lands_62 fl_X10_203 (by decide) ce_77 rfl (v := .int (M 77 16)) rfl ?_
  refine aw_iconst (v := 1) dX10_lands_65 (by decide) ?_
  refine aw_isub dX10_lands_66 ?_
  refine aw_putf dX10_lands_67 fp_X10_203 (by decide) ce_77 rfl rfl rfl ?_
  refine aw_goto (tgt := 0) dX10_lands_70 (by decide) ?_
  exact aw_less (less_k (less_k (less_d less_nil))) h
abbrev AX10_jumps (d : Nat) (Q : Option Int32 → Mem → Prop) (pc : Nat) (L : List (Option Value)) (st : List Value) (M : Mem) : Prop := AW none RX10 cX10_jumps 2 none d Q pc L st M
theorem eX10_jumps {d : Nat} {Q : Option Int32 → Mem → Prop} (M : Mem) (x1 : Int32) (h : AX10_jumps d Q 0 [lR 77, lI x1] [] M) : AM d iX10_jumps [.ref 77, .int x1] M Q := AM.of2 (by decide) rfl rfl h
theorem bX10_jumps_0 {d : Nat} {Q : Option Int32 → Mem → Prop} (M : Mem) (x1 : Int32) (h : (vp_in (M 77 16) 180) ∧ (AMv d iX10_notes [.ref 77, .int x1, .int 0] (wr (wr M 85 (ix (M 77 16)) ((1048576 * x1) + (M 77 15))) 77 16 ((M 77 16) + 1)) (fun M1 => Q none (wr M1 77 11 ((M1 77 11) + 1))))) : AX10_jumps (d + 1) Q 0 [lR 77, lI x1] [] M := by
  refine aw_aload_n dX10_jumps_0 rfl rfl ?_
  refine aw_getf dX10_jumps_1 fl_X10_32 (by decide) ce_77 rfl (v := .ref 85) rfl ?_
  refine aw_aload_n dX10_jumps_4 rfl rfl ?_
  refine aw_getf dX10_jumps_5 fl_X10_203 (by decide) ce_77 rfl (v := .int (M 77 16)) rfl ?_
  refine aw_ldc dX10_jumps_8 kc_X10_199 ?_
  refine aw_iload_n dX10_jumps_10 rfl rfl ?_
  refine aw_imul dX10_jumps_11 ?_
  refine aw_aload_n dX10_jumps_12 rfl rfl ?_
  refine aw_getf dX10_jumps_13 fl_X10_196 (by decide) ce_77 rfl (v := .int (M 77 15)) rfl ?_
  refine aw_iadd dX10_jumps_16 ?_
  obtain ⟨h9, h⟩ := h
  refine aw_iast dX10_jumps_17 (by decide) ce_85 h9 ?_
  refine aw_aload_n dX10_jumps_18 rfl rfl ?_
  refine aw_aload_n dX10_jumps_19 rfl rfl ?_
  refine aw_getf dX10_jumps_20 fl_X10_203 (by decide) ce_77 rfl (v := .int (M 77 16)) rfl ?_
  refine aw_iconst (v := 1) dX10_jumps_23 (by decide) ?_
  refine aw_iadd dX10_jumps_24 ?_
  refine aw_putf dX10_jumps_25 fp_X10_203 (by decide) ce_77 rfl rfl rfl ?_
  refine aw_aload_n dX10_jumps_28 rfl rfl ?_
  refine aw_iload_n dX10_jumps_29 rfl rfl ?_
  refine aw_iconst (v := 0) dX10_jumps_30 (by decide) ?_
  refine aw_callV (mi := iX10_notes) (av := [.int x1, .int 0]) (st := []) dX10_jumps_31 ml_X10_209 kX10_notes (by decide) ce_77 clX10 rfl rfl rfl (Nat.le_of_ble_eq_true rfl) (AM.mono h (fun r9 M1 h => ?_))
  obtain ⟨rfl, h⟩ := h
  refine aw_aload_n dX10_jumps_34 rfl rfl ?_
  refine aw_aload_n dX10_jumps_35 rfl rfl ?_
  refine aw_getf dX10_jumps_36 fl_X10_174 (by decide) ce_77 rfl (v := .int (M1 77 11)) rfl ?_
  refine aw_iconst (v := 1) dX10_jumps_39 (by decide) ?_
  refine aw_iadd dX10_jumps_40 ?_
  refine aw_putf dX10_jumps_41 fp_X10_174 (by decide) ce_77 rfl rfl rfl ?_
  exact aw_vret dX10_jumps_44 rfl h
abbrev AX10_readsCompared (d : Nat) (Q : Option Int32 → Mem → Prop) (pc : Nat) (L : List (Option Value)) (st : List Value) (M : Mem) : Prop := AW none RX10 cX10_readsCompared 2 (some .boolean) d Q pc L st M
theorem eX10_readsCompared {d : Nat} {Q : Option Int32 → Mem → Prop} (M : Mem) (h : AX10_readsCompared d Q 0 [lR 77, none] [] M) : AM d iX10_readsCompared [.ref 77] M Q := AM.of2 (by decide) rfl rfl h
theorem bX10_readsCompared_0 {d : Nat} {Q : Option Int32 → Mem → Prop} (M : Mem) (h : AMi d iX10_readsSum [.ref 77] M (fun r1 M1 => (¬ r1 = 0 → AMi d iX10_here [.ref 77] M1 (fun r2 M2 => (¬ r2 = 60 → AMi d iX10_here [.ref 77] M2 (fun r3 M3 => (¬ r3 = 62 → AMi d iX10_here [.ref 77] M3 (fun r4 M4 => (¬ r4 = 61 → AX10_readsCompared (d + 1) Q 52 [lR 77, none] [.int (-1)] M4) ∧ (r4 = 61 → AX10_readsCompared (d + 1) Q 52 [lR 77, none] [.int 9] M4))) ∧ (r3 = 62 → AX10_readsCompared (d + 1) Q 52 [lR 77, none] [.int 8] M3))) ∧ (r2 = 60 → AX10_readsCompared (d + 1) Q 52 [lR 77, none] [.int 7] M2))) ∧ (r1 = 0 → Q (some 0) M1))) : AX10_readsCompared (d + 1) Q 0 [lR 77, none] [] M := by
  refine aw_aload_n dX10_readsCompared_0 rfl rfl ?_
  refine aw_callV (mi := iX10_readsSum) (av := []) (st := []) dX10_readsCompared_1 ml_X10_235 kX10_readsSum (by decide) ce_77 clX10 rfl rfl rfl (Nat.le_of_ble_eq_true rfl) (AM.mono h (fun r9 M1 h => ?_))
  obtain ⟨r1, rfl, h⟩ := h
  refine aw_if_ne (tgt := 9) dX10_readsCompared_4 (by decide) (fun z => ?_) (fun z => ?_)
  · replace h := h.1 z
    refine aw_aload_n dX10_readsCompared_9 rfl rfl ?_
    refine aw_callV (mi := iX10_here) (av := []) (st := []) dX10_readsCompared_10 ml_X10_180 kX10_here (by decide) ce_77 clX10 rfl rfl rfl (Nat.le_of_ble_eq_true rfl) (AM.mono h (fun r9 M2 h => ?_))
    obtain ⟨r2, rfl, h⟩ := h
    refine aw_bipush (v := 60) dX10_readsCompared_13 (by decide) ?_
    refine aw_icmp_ne (tgt := 23) dX10_readsCompared_15 (by decide) (fun z => ?_) (fun z => ?_)
    · replace h := h.1 z
      refine aw_aload_n dX10_readsCompared_23 rfl rfl ?_
      refine aw_callV (mi := iX10_here) (av := []) (st := []) dX10_readsCompared_24 ml_X10_180 kX10_here (by decide) ce_77 clX10 rfl rfl rfl (Nat.le_of_ble_eq_true rfl) (AM.mono h (fun r9 M3 h => ?_))
      obtain ⟨r3, rfl, h⟩ := h
      refine aw_bipush (v := 62) dX10_readsCompared_27 (by decide) ?_
      refine aw_icmp_ne (tgt := 37) dX10_readsCompared_29 (by decide) (fun z => ?_) (fun z => ?_)
      · replace h := h.1 z
        refine aw_aload_n dX10_readsCompared_37 rfl rfl ?_
        refine aw_callV (mi := iX10_here) (av := []) (st := []) dX10_readsCompared_38 ml_X10_180 kX10_here (by decide) ce_77 clX10 rfl rfl rfl (Nat.le_of_ble_eq_true rfl) (AM.mono h (fun r9 M4 h => ?_))
        obtain ⟨r4, rfl, h⟩ := h
        refine aw_bipush (v := 61) dX10_readsCompared_41 (by decide) ?_
        refine aw_icmp_ne (tgt := 51) dX10_readsCompared_43 (by decide) (fun z => ?_) (fun z => ?_)
        · replace h := h.1 z
          refine aw_iconst (v := (-1)) dX10_readsCompared_51 (by decide) ?_
          exact h
        · replace h := h.2 z
          refine aw_bipush (v := 9) dX10_readsCompared_46 (by decide) ?_
          refine aw_goto (tgt := 52) dX10_readsCompared_48 (by decide) ?_
          exact h
      · replace h := h.2 z
        refine aw_bipush (v := 8) dX10_readsCompared_32 (by decide) ?_
        refine aw_goto (tgt := 52) dX10_readsCompared_34 (by decide) ?_
        exact h
    · replace h := h.2 z
      refine aw_bipush (v := 7) dX10_readsCompared_18 (by decide) ?_
      refine aw_goto (tgt := 52) dX10_readsCompared_20 (by decide) ?_
      exact h
  · replace h := h.2 z
    refine aw_iconst (v := 0) dX10_readsCompared_7 (by decide) ?_
    exact aw_iret dX10_readsCompared_8 rfl (nar_b (by decide)) h
theorem bX10_readsCompared_52 {d : Nat} {Q : Option Int32 → Mem → Prop} (M : Mem) (s0 : Int32) (h : (¬ s0 = (-1) → AMi d iX10_readsSum [.ref 77] (wr M 77 11 ((M 77 11) + 1)) (fun r1 M1 => (¬ r1 = 0 → AMv d iX10_notes [.ref 77, .int s0, .int 0] M1 (fun M2 => AMv d iX10_endsPiece [.ref 77] M2 (fun M3 => Q (some 1) M3))) ∧ (r1 = 0 → Q (some 0) M1))) ∧ (s0 = (-1) → AMi d iX10_wrongAt [.ref 77, .int 1, .int (M 77 11)] M (fun r4 M4 => (r4 = 0 ∨ r4 = 1) ∧ Q (some r4) M4))) : AX10_readsCompared (d + 1) Q 52 [lR 77, none] [.int s0] M := by
  refine aw_istore_n (L2 := [lR 77, lI s0]) dX10_readsCompared_52 rfl (by decide) rfl ?_
  refine aw_iload_n dX10_readsCompared_53 rfl rfl ?_
  refine aw_iconst (v := (-1)) dX10_readsCompared_54 (by decide) ?_
  refine aw_icmp_ne (tgt := 68) dX10_readsCompared_55 (by decide) (fun z => ?_) (fun z => ?_)
  · replace h := h.1 z
    refine aw_aload_n dX10_readsCompared_68 rfl rfl ?_
    refine aw_aload_n dX10_readsCompared_69 rfl rfl ?_
    refine aw_getf dX10_readsCompared_70 fl_X10_174 (by decide) ce_77 rfl (v := .int (M 77 11)) rfl ?_
    refine aw_iconst (v := 1) dX10_readsCompared_73 (by decide) ?_
    refine aw_iadd dX10_readsCompared_74 ?_
    refine aw_putf dX10_readsCompared_75 fp_X10_174 (by decide) ce_77 rfl rfl rfl ?_
    refine aw_aload_n dX10_readsCompared_78 rfl rfl ?_
    refine aw_callV (mi := iX10_readsSum) (av := []) (st := []) dX10_readsCompared_79 ml_X10_235 kX10_readsSum (by decide) ce_77 clX10 rfl rfl rfl (Nat.le_of_ble_eq_true rfl) (AM.mono h (fun r9 M1 h => ?_))
    obtain ⟨r1, rfl, h⟩ := h
    refine aw_if_ne (tgt := 87) dX10_readsCompared_82 (by decide) (fun z => ?_) (fun z => ?_)
    · replace h := h.1 z
      refine aw_aload_n dX10_readsCompared_87 rfl rfl ?_
      refine aw_iload_n dX10_readsCompared_88 rfl rfl ?_
      refine aw_iconst (v := 0) dX10_readsCompared_89 (by decide) ?_
      refine aw_callV (mi := iX10_notes) (av := [.int s0, .int 0]) (st := []) dX10_readsCompared_90 ml_X10_209 kX10_notes (by decide) ce_77 clX10 rfl rfl rfl (Nat.le_of_ble_eq_true rfl) (AM.mono h (fun r9 M2 h => ?_))
      obtain ⟨rfl, h⟩ := h
      refine aw_aload_n dX10_readsCompared_93 rfl rfl ?_
      refine aw_callV (mi := iX10_endsPiece) (av := []) (st := []) dX10_readsCompared_94 ml_X10_238 kX10_endsPiece (by decide) ce_77 clX10 rfl rfl rfl (Nat.le_of_ble_eq_true rfl) (AM.mono h (fun r9 M3 h => ?_))
      obtain ⟨rfl, h⟩ := h
      refine aw_iconst (v := 1) dX10_readsCompared_97 (by decide) ?_
      exact aw_iret dX10_readsCompared_98 rfl (nar_b (by decide)) h
    · replace h := h.2 z
      refine aw_iconst (v := 0) dX10_readsCompared_85 (by decide) ?_
      exact aw_iret dX10_readsCompared_86 rfl (nar_b (by decide)) h
  · replace h := h.2 z
    refine aw_aload_n dX10_readsCompared_58 rfl rfl ?_
    refine aw_iconst (v := 1) dX10_readsCompared_59 (by decide) ?_
    refine aw_aload_n dX10_readsCompared_60 rfl rfl ?_
    refine aw_getf dX10_readsCompared_61 fl_X10_174 (by decide) ce_77 rfl (v := .int (M 77 11)) rfl ?_
    refine aw_callV (mi := iX10_wrongAt) (av := [.int 1, .int (M 77 11)]) (st := []) dX10_readsCompared_64 ml_X10_186 kX10_wrongAt (by decide) ce_77 clX10 rfl rfl rfl (Nat.le_of_ble_eq_true rfl) (AM.mono h (fun r9 M4 h => ?_))
    obtain ⟨r4, rfl, h⟩ := h
    exact aw_iret dX10_readsCompared_67 rfl (nar_b h.1) h.2
abbrev AX10_readsCondition (d : Nat) (Q : Option Int32 → Mem → Prop) (pc : Nat) (L : List (Option Value)) (st : List Value) (M : Mem) : Prop := AW none RX10 cX10_readsCondition 1 (some .boolean) d Q pc L st M
theorem eX10_readsCondition {d : Nat} {Q : Option Int32 → Mem → Prop} (M : Mem) (h : AX10_readsCondition d Q 0 [lR 77] [] M) : AM d iX10_readsCondition [.ref 77] M Q := AM.of2 (by decide) rfl rfl h
theorem bX10_readsCondition_0 {d : Nat} {Q : Option Int32 → Mem → Prop} (M : Mem) (h : AMi d iX10_here [.ref 77] M (fun r1 M1 => (r1 = 40 → AMi d iX10_opens [.ref 77, .int 13] (wr (wr M1 77 14 0) 77 16 0) (fun r2 M2 => (¬ r2 = 0 → AX10_readsCondition (d + 1) Q 40 [lR 77] [] M2) ∧ (r2 = 0 → Q (some 0) M2))) ∧ (¬ r1 = 40 → AMi d iX10_wrongAt [.ref 77, .int 1, .int (M1 77 11)] M1 (fun r3 M3 => (r3 = 0 ∨ r3 = 1) ∧ Q (some r3) M3)))) : AX10_readsCondition (d + 1) Q 0 [lR 77] [] M := by
  refine aw_aload_n dX10_readsCondition_0 rfl rfl ?_
  refine aw_callV (mi := iX10_here) (av := []) (st := []) dX10_readsCondition_1 ml_X10_180 kX10_here (by decide) ce_77 clX10 rfl rfl rfl (Nat.le_of_ble_eq_true rfl) (AM.mono h (fun r9 M1 h => ?_))
  obtain ⟨r1, rfl, h⟩ := h
  refine aw_bipush (v := 40) dX10_readsCondition_4 (by decide) ?_
  refine aw_icmp_eq (tgt := 19) dX10_readsCondition_6 (by decide) (fun z => ?_) (fun z => ?_)
  · replace h := h.1 z
    refine aw_aload_n dX10_readsCondition_19 rfl rfl ?_
    refine aw_iconst (v := 0) dX10_readsCondition_20 (by decide) ?_
    refine aw_putf dX10_readsCondition_21 fp_X10_200 (by decide) ce_77 rfl rfl rfl ?_
    refine aw_aload_n dX10_readsCondition_24 rfl rfl ?_
    refine aw_iconst (v := 0) dX10_readsCondition_25 (by decide) ?_
    refine aw_putf dX10_readsCondition_26 fp_X10_203 (by decide) ce_77 rfl rfl rfl ?_
    refine aw_aload_n dX10_readsCondition_29 rfl rfl ?_
    refine aw_bipush (v := 13) dX10_readsCondition_30 (by decide) ?_
    refine aw_callV (mi := iX10_opens) (av := [.int 13]) (st := []) dX10_readsCondition_32 ml_X10_213 kX10_opens (by decide) ce_77 clX10 rfl rfl rfl (Nat.le_of_ble_eq_true rfl) (AM.mono h (fun r9 M2 h => ?_))
    obtain ⟨r2, rfl, h⟩ := h
    refine aw_if_ne (tgt := 40) dX10_readsCondition_35 (by decide) (fun z => ?_) (fun z => ?_)
    · replace h := h.1 z
      exact h
    · replace h := h.2 z
      refine aw_iconst (v := 0) dX10_readsCondition_38 (by decide) ?_
      exact aw_iret dX10_readsCondition_39 rfl (nar_b (by decide)) h
  · replace h := h.2 z
    refine aw_aload_n dX10_readsCondition_9 rfl rfl ?_
    refine aw_iconst (v := 1) dX10_readsCondition_10 (by decide) ?_
    refine aw_aload_n dX10_readsCondition_11 rfl rfl ?_
    refine aw_getf dX10_readsCondition_12 fl_X10_174 (by decide) ce_77 rfl (v := .int (M1 77 11)) rfl ?_
    refine aw_callV (mi := iX10_wrongAt) (av := [.int 1, .int (M1 77 11)]) (st := []) dX10_readsCondition_15 ml_X10_186 kX10_wrongAt (by decide) ce_77 clX10 rfl rfl rfl (Nat.le_of_ble_eq_true rfl) (AM.mono h (fun r9 M3 h => ?_))
    obtain ⟨r3, rfl, h⟩ := h
    exact aw_iret dX10_readsCondition_18 rfl (nar_b h.1) h.2
theorem bX10_readsCondition_40 {d : Nat} {Q : Option Int32 → Mem → Prop} (M : Mem) (h : AMi d iX10_here [.ref 77] M (fun r1 M1 => (r1 = 33 → AX10_readsCondition (d + 1) Q 58 [lR 77] [] M1) ∧ (¬ r1 = 33 → AMi d iX10_here [.ref 77] M1 (fun r2 M2 => (¬ r2 = 40 → AMi d iX10_readsCompared [.ref 77] M2 (fun r3 M3 => (¬ r3 = 0 → AX10_readsCondition (d + 1) Q 92 [lR 77] [] M3) ∧ (r3 = 0 → Q (some 0) M3))) ∧ (r2 = 40 → AX10_readsCondition (d + 1) Q 58 [lR 77] [] M2))))) : AX10_readsCondition (d + 1) Q 40 [lR 77] [] M := by
  refine aw_aload_n dX10_readsCondition_40 rfl rfl ?_
  refine aw_callV (mi := iX10_here) (av := []) (st := []) dX10_readsCondition_41 ml_X10_180 kX10_here (by decide) ce_77 clX10 rfl rfl rfl (Nat.le_of_ble_eq_true rfl) (AM.mono h (fun r9 M1 h => ?_))
  obtain ⟨r1, rfl, h⟩ := h
  refine aw_bipush (v := 33) dX10_readsCondition_44 (by decide) ?_
  refine aw_icmp_eq (tgt := 58) dX10_readsCondition_46 (by decide) (fun z => ?_) (fun z => ?_)
  · replace h := h.1 z
    exact h
  · replace h := h.2 z
    refine aw_aload_n dX10_readsCondition_49 rfl rfl ?_
    refine aw_callV (mi := iX10_here) (av := []) (st := []) dX10_readsCondition_50 ml_X10_180 kX10_here (by decide) ce_77 clX10 rfl rfl rfl (Nat.le_of_ble_eq_true rfl) (AM.mono h (fun r9 M2 h => ?_))
    obtain ⟨r2, rfl, h⟩ := h
    refine aw_bipush (v := 40) dX10_readsCondition_53 (by decide) ?_
    refine aw_icmp_ne (tgt := 83) dX10_readsCondition_55 (by decide) (fun z => ?_) (fun z => ?_)
    · replace h := h.1 z
      refine aw_aload_n dX10_readsCondition_83 rfl rfl ?_
      refine aw_callV (mi := iX10_readsCompared) (av := []) (st := []) dX10_readsCondition_84 ml_X10_241 kX10_readsCompared (by decide) ce_77 clX10 rfl rfl rfl (Nat.le_of_ble_eq_true rfl) (AM.mono h (fun r9 M3 h => ?_))
      obtain ⟨r3, rfl, h⟩ := h
      refine aw_if_ne (tgt := 92) dX10_readsCondition_87 (by decide) (fun z => ?_) (fun z => ?_)
      · replace h := h.1 z
        exact h
      · replace h := h.2 z
        refine aw_iconst (v := 0) dX10_readsCondition_90 (by decide) ?_
        exact aw_iret dX10_readsCondition_91 rfl (nar_b (by decide)) h
    · replace h := h.2 z
      exact h
theorem bX10_readsCondition_58 {d : Nat} {Q : Option Int32 → Mem → Prop} (M : Mem) (h : AMi d iX10_here [.ref 77] M (fun r1 M1 => (¬ r1 = 33 → AX10_readsCondition (d + 1) Q 75 [lR 77] [.int 13, .ref 77] M1) ∧ (r1 = 33 → AX10_readsCondition (d + 1) Q 75 [lR 77] [.int 10, .ref 77] M1))) : AX10_readsCondition (d + 1) Q 58 [lR 77] [] M := by
  refine aw_aload_n dX10_readsCondition_58 rfl rfl ?_
  refine aw_aload_n dX10_readsCondition_59 rfl rfl ?_
  refine aw_callV (mi := iX10_here) (av := []) (st := [.ref 77]) dX10_readsCondition_60 ml_X10_180 kX10_here (by decide) ce_77 clX10 rfl rfl rfl (Nat.le_of_ble_eq_true rfl) (AM.mono h (fun r9 M1 h => ?_))
  obtain ⟨r1, rfl, h⟩ := h
  refine aw_bipush (v := 33) dX10_readsCondition_63 (by decide) ?_
  refine aw_icmp_ne (tgt := 73) dX10_readsCondition_65 (by decide) (fun z => ?_) (fun z => ?_)
  · replace h := h.1 z
    refine aw_bipush (v := 13) dX10_readsCondition_73 (by decide) ?_
    exact h
  · replace h := h.2 z
    refine aw_bipush (v := 10) dX10_readsCondition_68 (by decide) ?_
    refine aw_goto (tgt := 75) dX10_readsCondition_70 (by decide) ?_
    exact h
theorem bX10_readsCondition_75 {d : Nat} {Q : Option Int32 → Mem → Prop} (M : Mem) (s0 : Int32) (h : AMi d iX10_opens [.ref 77, .int s0] M (fun r1 M1 => (¬ r1 = 0 → AX10_readsCondition (d + 1) Q 40 [lR 77] [] M1) ∧ (r1 = 0 → Q (some 0) M1))) : AX10_readsCondition (d + 1) Q 75 [lR 77] [.int s0, .ref 77] M := by
  refine aw_callV (mi := iX10_opens) (av := [.int s0]) (st := []) dX10_readsCondition_75 ml_X10_213 kX10_opens (by decide) ce_77 clX10 rfl rfl rfl (Nat.le_of_ble_eq_true rfl) (AM.mono h (fun r9 M1 h => ?_))
  obtain ⟨r1, rfl, h⟩ := h
  refine aw_if_ne (tgt := 40) dX10_readsCondition_78 (by decide) (fun z => ?_) (fun z => ?_)
  · replace h := h.1 z
    exact h
  · replace h := h.2 z
    refine aw_iconst (v := 0) dX10_readsCondition_81 (by decide) ?_
    exact aw_iret dX10_readsCondition_82 rfl (nar_b (by decide)) h
theorem bX10_readsCondition_92 {d : Nat} {Q : Option Int32 → Mem → Prop} (M : Mem) (h : AMi d iX10_here [.ref 77] M (fun r1 M1 => (¬ r1 = 41 → AMi d iX10_here [.ref 77] M1 (fun r2 M2 => (r2 = 38 → AX10_readsCondition (d + 1) Q 180 [lR 77] [] M2) ∧ (¬ r2 = 38 → AMi d iX10_here [.ref 77] M2 (fun r3 M3 => (r3 = 124 → AX10_readsCondition (d + 1) Q 180 [lR 77] [] M3) ∧ (¬ r3 = 124 → AMi d iX10_wrongAt [.ref 77, .int 1, .int (M3 77 11)] M3 (fun r4 M4 => (r4 = 0 ∨ r4 = 1) ∧ Q (some r4) M4)))))) ∧ (r1 = 41 → AMv d iX10_lands [.ref 77, .int 1] M1 (fun M5 => (¬ (((M5 77 16) - 1)) = 0 → AMv d iX10_endsPiece [.ref 77] (wr (wr (wr M5 77 16 ((M5 77 16) - 1)) 77 14 ((M5 77 14) - 1)) 77 11 ((M5 77 11) + 1)) (fun M6 => AX10_readsCondition (d + 1) Q 92 [lR 77] [] M6)) ∧ ((((M5 77 16) - 1)) = 0 → Q (some 1) (wr (wr (wr M5 77 16 ((M5 77 16) - 1)) 77 14 ((M5 77 14) - 1)) 77 11 ((M5 77 11) + 1))))))) : AX10_readsCondition (d + 1) Q 92 [lR 77] [] M := by
  refine aw_aload_n dX10_readsCondition_92 rfl rfl ?_
  refine aw_callV (mi := iX10_here) (av := []) (st := []) dX10_readsCondition_93 ml_X10_180 kX10_here (by decide) ce_77 clX10 rfl rfl rfl (Nat.le_of_ble_eq_true rfl) (AM.mono h (fun r9 M1 h => ?_))
  obtain ⟨r1, rfl, h⟩ := h
  refine aw_bipush (v := 41) dX10_readsCondition_96 (by decide) ?_
  refine aw_icmp_ne (tgt := 152) dX10_readsCondition_98 (by decide) (fun z => ?_) (fun z => ?_)
  · replace h := h.1 z
    refine aw_aload_n dX10_readsCondition_152 rfl rfl ?_
    refine aw_callV (mi := iX10_here) (av := []) (st := []) dX10_readsCondition_153 ml_X10_180 kX10_here (by decide) ce_77 clX10 rfl rfl rfl (Nat.le_of_ble_eq_true rfl) (AM.mono h (fun r9 M2 h => ?_))
    obtain ⟨r2, rfl, h⟩ := h
    refine aw_bipush (v := 38) dX10_readsCondition_156 (by decide) ?_
    refine aw_icmp_eq (tgt := 180) dX10_readsCondition_158 (by decide) (fun z => ?_) (fun z => ?_)
    · replace h := h.1 z
      exact h
    · replace h := h.2 z
      refine aw_aload_n dX10_readsCondition_161 rfl rfl ?_
      refine aw_callV (mi := iX10_here) (av := []) (st := []) dX10_readsCondition_162 ml_X10_180 kX10_here (by decide) ce_77 clX10 rfl rfl rfl (Nat.le_of_ble_eq_true rfl) (AM.mono h (fun r9 M3 h => ?_))
      obtain ⟨r3, rfl, h⟩ := h
      refine aw_bipush (v := 124) dX10_readsCondition_165 (by decide) ?_
      refine aw_icmp_eq (tgt := 180) dX10_readsCondition_167 (by decide) (fun z => ?_) (fun z => ?_)
      · replace h := h.1 z
        exact h
      · replace h := h.2 z
        refine aw_aload_n dX10_readsCondition_170 rfl rfl ?_
        refine aw_iconst (v := 1) dX10_readsCondition_171 (by decide) ?_
        refine aw_aload_n dX10_readsCondition_172 rfl rfl ?_
        refine aw_getf dX10_readsCondition_173 fl_X10_174 (by decide) ce_77 rfl (v := .int (M3 77 11)) rfl ?_
        refine aw_callV (mi := iX10_wrongAt) (av := [.int 1, .int (M3 77 11)]) (st := []) dX10_readsCondition_176 ml_X10_186 kX10_wrongAt (by decide) ce_77 clX10 rfl rfl rfl (Nat.le_of_ble_eq_true rfl) (AM.mono h (fun r9 M4 h => ?_))
        obtain ⟨r4, rfl, h⟩ := h
        exact aw_iret dX10_readsCondition_179 rfl (nar_b h.1) h.2
  · replace h := h.2 z
    refine aw_aload_n dX10_readsCondition_101 rfl rfl ?_
    refine aw_iconst (v := 1) dX10_readsCondition_102 (by decide) ?_
    refine aw_callV (mi := iX10_lands) (av := [.int 1]) (st := []) dX10_readsCondition_103 ml_X10_244 kX10_lands (by decide) ce_77 clX10 rfl rfl rfl (Nat.le_of_ble_eq_true rfl) (AM.mono h (fun r9 M5 h => ?_))
    obtain ⟨rfl, h⟩ := h
    refine aw_aload_n dX10_readsCondition_106 rfl rfl ?_
    refine aw_aload_n dX10_readsCondition_107 rfl rfl ?_
    refine aw_getf dX10_readsCondition_108 fl_X10_203 (by decide) ce_77 rfl (v := .int (M5 77 16)) rfl ?_
    refine aw_iconst (v := 1) dX10_readsCondition_111 (by decide) ?_
    refine aw_isub dX10_readsCondition_112 ?_
    refine aw_putf dX10_readsCondition_113 fp_X10_203 (by decide) ce_77 rfl rfl rfl ?_
    refine aw_aload_n dX10_readsCondition_116 rfl rfl ?_
    refine aw_aload_n dX10_readsCondition_117 rfl rfl ?_
    refine aw_getf dX10_readsCondition_118 fl_X10_200 (by decide) ce_77 rfl (v := .int (M5 77 14)) rfl ?_
    refine aw_iconst (v := 1) dX10_readsCondition_121 (by decide) ?_
    refine aw_isub dX10_readsCondition_122 ?_
    refine aw_putf dX10_readsCondition_123 fp_X10_200 (by decide) ce_77 rfl rfl rfl ?_
    refine aw_aload_n dX10_readsCondition_126 rfl rfl ?_
    refine aw_aload_n dX10_readsCondition_127 rfl rfl ?_
    refine aw_getf dX10_readsCondition_128 fl_X10_174 (by decide) ce_77 rfl (v := .int (M5 77 11)) rfl ?_
    refine aw_iconst (v := 1) dX10_readsCondition_131 (by decide) ?_
    refine aw_iadd dX10_readsCondition_132 ?_
    refine aw_putf dX10_readsCondition_133 fp_X10_174 (by decide) ce_77 rfl rfl rfl ?_
    refine aw_aload_n dX10_readsCondition_136 rfl rfl ?_
    refine aw_getf dX10_readsCondition_137 fl_X10_203 (by decide) ce_77 rfl (v := .int (((M5 77 16) - 1))) rfl ?_
    refine aw_if_ne (tgt := 145) dX10_readsCondition_140 (by decide) (fun z => ?_) (fun z => ?_)
    · replace h := h.1 z
      refine aw_aload_n dX10_readsCondition_145 rfl rfl ?_
      refine aw_callV (mi := iX10_endsPiece) (av := []) (st := []) dX10_readsCondition_146 ml_X10_238 kX10_endsPiece (by decide) ce_77 clX10 rfl rfl rfl (Nat.le_of_ble_eq_true rfl) (AM.mono h (fun r9 M6 h => ?_))
      obtain ⟨rfl, h⟩ := h
      refine aw_goto (tgt := 92) dX10_readsCondition_149 (by decide) ?_
      exact h
    · replace h := h.2 z
      refine aw_iconst (v := 1) dX10_readsCondition_143 (by decide) ?_
      exact aw_iret dX10_readsCondition_144 rfl (nar_b (by decide)) h
theorem bX10_readsCondition_180 {d : Nat} {Q : Option Int32 → Mem → Prop} (M : Mem) (h : AMi d iX10_here [.ref 77] M (fun r1 M1 => (¬ r1 = 124 → AX10_readsCondition (d + 1) Q 195 [lR 77] [.int 0, .ref 77] M1) ∧ (r1 = 124 → AX10_readsCondition (d + 1) Q 195 [lR 77] [.int 1, .ref 77] M1))) : AX10_readsCondition (d + 1) Q 180 [lR 77] [] M := by
  refine aw_aload_n dX10_readsCondition_180 rfl rfl ?_
  refine aw_aload_n dX10_readsCondition_181 rfl rfl ?_
  refine aw_callV (mi := iX10_here) (av := []) (st := [.ref 77]) dX10_readsCondition_182 ml_X10_180 kX10_here (by decide) ce_77 clX10 rfl rfl rfl (Nat.le_of_ble_eq_true rfl) (AM.mono h (fun r9 M1 h => ?_))
  obtain ⟨r1, rfl, h⟩ := h
  refine aw_bipush (v := 124) dX10_readsCondition_185 (by decide) ?_
  refine aw_icmp_ne (tgt := 194) dX10_readsCondition_187 (by decide) (fun z => ?_) (fun z => ?_)
  · replace h := h.1 z
    refine aw_iconst (v := 0) dX10_readsCondition_194 (by decide) ?_
    exact h
  · replace h := h.2 z
    refine aw_iconst (v := 1) dX10_readsCondition_190 (by decide) ?_
    refine aw_goto (tgt := 195) dX10_readsCondition_191 (by decide) ?_
    exact h
theorem bX10_readsCondition_195 {d : Nat} {Q : Option Int32 → Mem → Prop} (M : Mem) (s0 : Int32) (h : AMv d iX10_lands [.ref 77, .int s0] M (fun M1 => AMi d iX10_here [.ref 77] M1 (fun r2 M2 => (¬ r2 = 38 → AMv d iX10_jumps [.ref 77, .int 12] M2 (fun M3 => AX10_readsCondition (d + 1) Q 40 [lR 77] [] M3)) ∧ (r2 = 38 → AMv d iX10_jumps [.ref 77, .int 11] M2 (fun M4 => AX10_readsCondition (d + 1) Q 40 [lR 77] [] M4))))) : AX10_readsCondition (d + 1) Q 195 [lR 77] [.int s0, .ref 77] M := by
  refine aw_callV (mi := iX10_lands) (av := [.int s0]) (st := []) dX10_readsCondition_195 ml_X10_244 kX10_lands (by decide) ce_77 clX10 rfl rfl rfl (Nat.le_of_ble_eq_true rfl) (AM.mono h (fun r9 M1 h => ?_))
  obtain ⟨rfl, h⟩ := h
  refine aw_aload_n dX10_readsCondition_198 rfl rfl ?_
  refine aw_aload_n dX10_readsCondition_199 rfl rfl ?_
  refine aw_callV (mi := iX10_here) (av := []) (st := [.ref 77]) dX10_readsCondition_200 ml_X10_180 kX10_here (by decide) ce_77 clX10 rfl rfl rfl (Nat.le_of_ble_eq_true rfl) (AM.mono h (fun r9 M2 h => ?_))
  obtain ⟨r2, rfl, h⟩ := h
  refine aw_bipush (v := 38) dX10_readsCondition_203 (by decide) ?_
  refine aw_icmp_ne (tgt := 213) dX10_readsCondition_205 (by decide) (fun z => ?_) (fun z => ?_)
  · replace h := h.1 z
    refine aw_bipush (v := 12) dX10_readsCondition_213 (by decide) ?_
    refine aw_callV (mi := iX10_jumps) (av := [.int 12]) (st := []) dX10_readsCondition_215 ml_X10_247 kX10_jumps (by decide) ce_77 clX10 rfl rfl rfl (Nat.le_of_ble_eq_true rfl) (AM.mono h (fun r9 M3 h => ?_))
    obtain ⟨rfl, h⟩ := h
    refine aw_goto (tgt := 40) dX10_readsCondition_218 (by decide) ?_
    exact h
  · replace h := h.2 z
    refine aw_bipush (v := 11) dX10_readsCondition_208 (by decide) ?_
    refine aw_goto (tgt := 215) dX10_readsCondition_210 (by decide) ?_
    refine aw_callV (mi := iX10_jumps) (av := [.int 11]) (st := []) dX10_readsCondition_215 ml_X10_247 kX10_jumps (by decide) ce_77 clX10 rfl rfl rfl (Nat.le_of_ble_eq_true rfl) (AM.mono h (fun r9 M4 h => ?_))
    obtain ⟨rfl, h⟩ := h
    refine aw_goto (tgt := 40) dX10_readsCondition_218 (by decide) ?_
    exact h
abbrev AX10_readsClause (d : Nat) (Q : Option Int32 → Mem → Prop) (pc : Nat) (L : List (Option Value)) (st : List Value) (M : Mem) : Prop := AW none RX10 cX10_readsClause 2 (some .boolean) d Q pc L st M
theorem eX10_readsClause {d : Nat} {Q : Option Int32 → Mem → Prop} (M : Mem) (h : AX10_readsClause d Q 0 [lR 77, none] [] M) : AM d iX10_readsClause [.ref 77] M Q := AM.of2 (by decide) rfl rfl h
theorem bX10_readsClause_0 {d : Nat} {Q : Option Int32 → Mem → Prop} (M : Mem) (h : AMi d iX10_here [.ref 77] M (fun r1 M1 => (r1 = 110 → AX10_readsClause (d + 1) Q 39 [lR 77, lI r1] [] M1) ∧ (¬ r1 = 110 → (r1 = 103 → AX10_readsClause (d + 1) Q 39 [lR 77, lI r1] [] M1) ∧ (¬ r1 = 103 → (r1 = 120 → AX10_readsClause (d + 1) Q 39 [lR 77, lI r1] [] M1) ∧ (¬ r1 = 120 → (r1 = 112 → AX10_readsClause (d + 1) Q 39 [lR 77, lI r1] [] M1) ∧ (¬ r1 = 112 → AMi d iX10_wrongAt [.ref 77, .int 1, .int (M1 77 11)] M1 (fun r2 M2 => (r2 = 0 ∨ r2 = 1) ∧ Q (some r2) M2))))))) : AX10_readsClause (d + 1) Q 0 [lR 77, none] [] M := by
  refine aw_aload_n dX10_readsClause_0 rfl rfl ?_
  refine aw_callV (mi := iX10_here) (av := []) (st := []) dX10_readsClause_1 ml_X10_180 kX10_here (by decide) ce_77 clX10 rfl rfl rfl (Nat.le_of_ble_eq_true rfl) (AM.mono h (fun r9 M1 h => ?_))
  obtain ⟨r1, rfl, h⟩ := h
  refine aw_istore_n (L2 := [lR 77, lI r1]) dX10_readsClause_4 rfl (by decide) rfl ?_
  refine aw_iload_n dX10_readsClause_5 rfl rfl ?_
  refine aw_bipush (v := 110) dX10_readsClause_6 (by decide) ?_
  refine aw_icmp_eq (tgt := 39) dX10_readsClause_8 (by decide) (fun z => ?_) (fun z => ?_)
  · replace h := h.1 z
    exact h
  · replace h := h.2 z
    refine aw_iload_n dX10_readsClause_11 rfl rfl ?_
    refine aw_bipush (v := 103) dX10_readsClause_12 (by decide) ?_
    refine aw_icmp_eq (tgt := 39) dX10_readsClause_14 (by decide) (fun z => ?_) (fun z => ?_)
    · replace h := h.1 z
      exact h
    · replace h := h.2 z
      refine aw_iload_n dX10_readsClause_17 rfl rfl ?_
      refine aw_bipush (v := 120) dX10_readsClause_18 (by decide) ?_
      refine aw_icmp_eq (tgt := 39) dX10_readsClause_20 (by decide) (fun z => ?_) (fun z => ?_)
      · replace h := h.1 z
        exact h
      · replace h := h.2 z
        refine aw_iload_n dX10_readsClause_23 rfl rfl ?_
        refine aw_bipush (v := 112) dX10_readsClause_24 (by decide) ?_
        refine aw_icmp_eq (tgt := 39) dX10_readsClause_26 (by decide) (fun z => ?_) (fun z => ?_)
        · replace h := h.1 z
          exact h
        · replace h := h.2 z
          refine aw_aload_n dX10_readsClause_29 rfl rfl ?_
          refine aw_iconst (v := 1) dX10_readsClause_30 (by decide) ?_
          refine aw_aload_n dX10_readsClause_31 rfl rfl ?_
          refine aw_getf dX10_readsClause_32 fl_X10_174 (by decide) ce_77 rfl (v := .int (M1 77 11)) rfl ?_
          refine aw_callV (mi := iX10_wrongAt) (av := [.int 1, .int (M1 77 11)]) (st := []) dX10_readsClause_35 ml_X10_186 kX10_wrongAt (by decide) ce_77 clX10 rfl rfl rfl (Nat.le_of_ble_eq_true rfl) (AM.mono h (fun r9 M2 h => ?_))
          obtain ⟨r2, rfl, h⟩ := h
          exact aw_iret dX10_readsClause_38 rfl (nar_b h.1) h.2
theorem bX10_readsClause_39 {d : Nat} {Q : Option Int32 → Mem → Prop} (M : Mem) (x1 : Int32) (h : (¬ (M 77 17) = 12 → (vp_in (M 77 17) 12) ∧ ((vp_in (M 77 17) 12) ∧ ((x1 = 110 → AX10_readsClause (d + 1) Q 122 [lR 77, none] [] (wr (wr (wr (wr (wr M 86 (ix (M 77 17)) x1) 77 11 ((M 77 11) + 1)) 87 (ix (M 77 17)) (M 77 15)) 77 14 0) 77 16 0)) ∧ (¬ x1 = 110 → (x1 = 120 → AX10_readsClause (d + 1) Q 122 [lR 77, none] [] (wr (wr (wr (wr (wr M 86 (ix (M 77 17)) x1) 77 11 ((M 77 11) + 1)) 87 (ix (M 77 17)) (M 77 15)) 77 14 0) 77 16 0)) ∧ (¬ x1 = 120 → AMi d iX10_readsSum [.ref 77] (wr (wr (wr (wr (wr M 86 (ix (M 77 17)) x1) 77 11 ((M 77 11) + 1)) 87 (ix (M 77 17)) (M 77 15)) 77 14 0) 77 16 0) (fun r1 M1 => (¬ r1 = 0 → AX10_readsClause (d + 1) Q 122 [lR 77, none] [] M1) ∧ (r1 = 0 → Q (some 0) M1))))))) ∧ ((M 77 17) = 12 → AMi d iX10_wrongAt [.ref 77, .int 4, .int (M 77 11)] M (fun r2 M2 => (r2 = 0 ∨ r2 = 1) ∧ Q (some r2) M2))) : AX10_readsClause (d + 1) Q 39 [lR 77, lI x1] [] M := by
  refine aw_aload_n dX10_readsClause_39 rfl rfl ?_
  refine aw_getf dX10_readsClause_40 fl_X10_250 (by decide) ce_77 rfl (v := .int (M 77 17)) rfl ?_
  refine aw_bipush (v := 12) dX10_readsClause_43 (by decide) ?_
  refine aw_icmp_ne (tgt := 58) dX10_readsClause_45 (by decide) (fun z => ?_) (fun z => ?_)
  · replace h := h.1 z
    refine aw_aload_n dX10_readsClause_58 rfl rfl ?_
    refine aw_getf dX10_readsClause_59 fl_X10_35 (by decide) ce_77 rfl (v := .ref 86) rfl ?_
    refine aw_aload_n dX10_readsClause_62 rfl rfl ?_
    refine aw_getf dX10_readsClause_63 fl_X10_250 (by decide) ce_77 rfl (v := .int (M 77 17)) rfl ?_
    refine aw_iload_n dX10_readsClause_66 rfl rfl ?_
    obtain ⟨h9, h⟩ := h
    refine aw_iast dX10_readsClause_67 (by decide) ce_86 h9 ?_
    refine aw_aload_n dX10_readsClause_68 rfl rfl ?_
    refine aw_aload_n dX10_readsClause_69 rfl rfl ?_
    refine aw_getf dX10_readsClause_70 fl_X10_174 (by decide) ce_77 rfl (v := .int (M 77 11)) rfl ?_
    refine aw_iconst (v := 1) dX10_readsClause_73 (by decide) ?_
    refine aw_iadd dX10_readsClause_74 ?_
    refine aw_putf dX10_readsClause_75 fp_X10_174 (by decide) ce_77 rfl rfl rfl ?_
    refine aw_aload_n dX10_readsClause_78 rfl rfl ?_
    refine aw_getf dX10_readsClause_79 fl_X10_38 (by decide) ce_77 rfl (v := .ref 87) rfl ?_
    refine aw_aload_n dX10_readsClause_82 rfl rfl ?_
    refine aw_getf dX10_readsClause_83 fl_X10_250 (by decide) ce_77 rfl (v := .int (M 77 17)) rfl ?_
    refine aw_aload_n dX10_readsClause_86 rfl rfl ?_
    refine aw_getf dX10_readsClause_87 fl_X10_196 (by decide) ce_77 rfl (v := .int (M 77 15)) rfl ?_
    obtain ⟨h9, h⟩ := h
    refine aw_iast dX10_readsClause_90 (by decide) ce_87 h9 ?_
    refine aw_aload_n dX10_readsClause_91 rfl rfl ?_
    refine aw_iconst (v := 0) dX10_readsClause_92 (by decide) ?_
    refine aw_putf dX10_readsClause_93 fp_X10_200 (by decide) ce_77 rfl rfl rfl ?_
    refine aw_aload_n dX10_readsClause_96 rfl rfl ?_
    refine aw_iconst (v := 0) dX10_readsClause_97 (by decide) ?_
    refine aw_putf dX10_readsClause_98 fp_X10_203 (by decide) ce_77 rfl rfl rfl ?_
    refine aw_iload_n dX10_readsClause_101 rfl rfl ?_
    refine aw_bipush (v := 110) dX10_readsClause_102 (by decide) ?_
    refine aw_icmp_eq (tgt := 122) dX10_readsClause_104 (by decide) (fun z => ?_) (fun z => ?_)
    · replace h := h.1 z
      exact aw_less (less_k (less_d less_nil)) h
    · replace h := h.2 z
      refine aw_iload_n dX10_readsClause_107 rfl rfl ?_
      refine aw_bipush (v := 120) dX10_readsClause_108 (by decide) ?_
      refine aw_icmp_eq (tgt := 122) dX10_readsClause_110 (by decide) (fun z => ?_) (fun z => ?_)
      · replace h := h.1 z
        exact aw_less (less_k (less_d less_nil)) h
      · replace h := h.2 z
        refine aw_aload_n dX10_readsClause_113 rfl rfl ?_
        refine aw_callV (mi := iX10_readsSum) (av := []) (st := []) dX10_readsClause_114 ml_X10_235 kX10_readsSum (by decide) ce_77 clX10 rfl rfl rfl (Nat.le_of_ble_eq_true rfl) (AM.mono h (fun r9 M1 h => ?_))
        obtain ⟨r1, rfl, h⟩ := h
        refine aw_if_ne (tgt := 122) dX10_readsClause_117 (by decide) (fun z => ?_) (fun z => ?_)
        · replace h := h.1 z
          exact aw_less (less_k (less_d less_nil)) h
        · replace h := h.2 z
          refine aw_iconst (v := 0) dX10_readsClause_120 (by decide) ?_
          exact aw_iret dX10_readsClause_121 rfl (nar_b (by decide)) h
  · replace h := h.2 z
    refine aw_aload_n dX10_readsClause_48 rfl rfl ?_
    refine aw_iconst (v := 4) dX10_readsClause_49 (by decide) ?_
    refine aw_aload_n dX10_readsClause_50 rfl rfl ?_
    refine aw_getf dX10_readsClause_51 fl_X10_174 (by decide) ce_77 rfl (v := .int (M 77 11)) rfl ?_
    refine aw_callV (mi := iX10_wrongAt) (av := [.int 4, .int (M 77 11)]) (st := []) dX10_readsClause_54 ml_X10_186 kX10_wrongAt (by decide) ce_77 clX10 rfl rfl rfl (Nat.le_of_ble_eq_true rfl) (AM.mono h (fun r9 M2 h => ?_))
    obtain ⟨r2, rfl, h⟩ := h
    exact aw_iret dX10_readsClause_57 rfl (nar_b h.1) h.2
theorem bX10_readsClause_122 {d : Nat} {Q : Option Int32 → Mem → Prop} (M : Mem) (h : (vp_in (M 77 17) 12) ∧ (AMi d iX10_readsCondition [.ref 77] (wr M 88 (ix (M 77 17)) (M 77 15)) (fun r1 M1 => (¬ r1 = 0 → (vp_in (M1 77 17) 12) ∧ (Q (some 1) (wr (wr M1 89 (ix (M1 77 17)) (M1 77 15)) 77 17 ((M1 77 17) + 1)))) ∧ (r1 = 0 → Q (some 0) M1)))) : AX10_readsClause (d + 1) Q 122 [lR 77, none] [] M := by
  refine aw_aload_n dX10_readsClause_122 rfl rfl ?_
  refine aw_getf dX10_readsClause_123 fl_X10_41 (by decide) ce_77 rfl (v := .ref 88) rfl ?_
  refine aw_aload_n dX10_readsClause_126 rfl rfl ?_
  refine aw_getf dX10_readsClause_127 fl_X10_250 (by decide) ce_77 rfl (v := .int (M 77 17)) rfl ?_
  refine aw_aload_n dX10_readsClause_130 rfl rfl ?_
  refine aw_getf dX10_readsClause_131 fl_X10_196 (by decide) ce_77 rfl (v := .int (M 77 15)) rfl ?_
  obtain ⟨h9, h⟩ := h
  refine aw_iast dX10_readsClause_134 (by decide) ce_88 h9 ?_
  refine aw_aload_n dX10_readsClause_135 rfl rfl ?_
  refine aw_callV (mi := iX10_readsCondition) (av := []) (st := []) dX10_readsClause_136 ml_X10_253 kX10_readsCondition (by decide) ce_77 clX10 rfl rfl rfl (Nat.le_of_ble_eq_true rfl) (AM.mono h (fun r9 M1 h => ?_))
  obtain ⟨r1, rfl, h⟩ := h
  refine aw_if_ne (tgt := 144) dX10_readsClause_139 (by decide) (fun z => ?_) (fun z => ?_)
  · replace h := h.1 z
    refine aw_aload_n dX10_readsClause_144 rfl rfl ?_
    refine aw_getf dX10_readsClause_145 fl_X10_44 (by decide) ce_77 rfl (v := .ref 89) rfl ?_
    refine aw_aload_n dX10_readsClause_148 rfl rfl ?_
    refine aw_getf dX10_readsClause_149 fl_X10_250 (by decide) ce_77 rfl (v := .int (M1 77 17)) rfl ?_
    refine aw_aload_n dX10_readsClause_152 rfl rfl ?_
    refine aw_getf dX10_readsClause_153 fl_X10_196 (by decide) ce_77 rfl (v := .int (M1 77 15)) rfl ?_
    obtain ⟨h9, h⟩ := h
    refine aw_iast dX10_readsClause_156 (by decide) ce_89 h9 ?_
    refine aw_aload_n dX10_readsClause_157 rfl rfl ?_
    refine aw_aload_n dX10_readsClause_158 rfl rfl ?_
    refine aw_getf dX10_readsClause_159 fl_X10_250 (by decide) ce_77 rfl (v := .int (M1 77 17)) rfl ?_
    refine aw_iconst (v := 1) dX10_readsClause_162 (by decide) ?_
    refine aw_iadd dX10_readsClause_163 ?_
    refine aw_putf dX10_readsClause_164 fp_X10_250 (by decide) ce_77 rfl rfl rfl ?_
    refine aw_iconst (v := 1) dX10_readsClause_167 (by decide) ?_
    exact aw_iret dX10_readsClause_168 rfl (nar_b (by decide)) h
  · replace h := h.2 z
    refine aw_iconst (v := 0) dX10_readsClause_142 (by decide) ?_
    exact aw_iret dX10_readsClause_143 rfl (nar_b (by decide)) h
abbrev AX10_law (d : Nat) (Q : Option Int32 → Mem → Prop) (pc : Nat) (L : List (Option Value)) (st : List Value) (M : Mem) : Prop := AW none RX10 cX10_law 5 (some .int) d Q pc L st M
theorem eX10_law {d : Nat} {Q : Option Int32 → Mem → Prop} (M : Mem) (x1 x2 : Int32) (h : AX10_law d Q 0 [lR 77, lI x1, lI x2, none, none] [] M) : AM d iX10_law [.ref 77, .int x1, .int x2] M Q := AM.of2 (by decide) rfl rfl h
theorem bX10_law_0 {d : Nat} {Q : Option Int32 → Mem → Prop} (M : Mem) (x1 x2 : Int32) (h : ((inV x1 0 1) = 0 → Q (some (-1)) M) ∧ (¬ (inV x1 0 1) = 0 → ((inV x2 1 160) = 0 → Q (some (-1)) M) ∧ (¬ (inV x2 1 160) = 0 → (x2 ≤ (M 77 10) → AMi d iX10_readsClause [.ref 77] (wr (wr (wr (wr M 77 11 0) 77 12 x2) 77 15 0) 77 17 0) (fun r1 M1 => AX10_law (d + 1) Q 55 [lR 77, lI x1, none, lI r1, none] [] M1)) ∧ (¬ x2 ≤ (M 77 10) → Q (some (-1)) M)))) : AX10_law (d + 1) Q 0 [lR 77, lI x1, lI x2, none, none] [] M := by
  refine aw_iload_n dX10_law_0 rfl rfl ?_
  refine aw_iconst (v := 0) dX10_law_1 (by decide) ?_
  refine aw_iconst (v := 1) dX10_law_2 (by decide) ?_
  refine aw_callS (mi := iX10_in) (av := [.int x1, .int 0, .int 1]) (st := []) dX10_law_3 ml_X10_152 kX10_in rfl rfl (Nat.le_of_ble_eq_true rfl) (AM.mono (p_X10_in _ _ _) (fun r9 M9 e9 => ?_))
  obtain ⟨rfl, rfl⟩ := e9
  refine aw_if_eq (tgt := 28) dX10_law_6 (by decide) (fun z => ?_) (fun z => ?_)
  · replace h := h.1 z
    refine aw_iconst (v := (-1)) dX10_law_28 (by decide) ?_
    exact aw_iret dX10_law_29 rfl rfl h
  · replace h := h.2 z
    refine aw_iload_n dX10_law_9 rfl rfl ?_
    refine aw_iconst (v := 1) dX10_law_10 (by decide) ?_
    refine aw_sipush (v := 160) dX10_law_11 (by decide) ?_
    refine aw_callS (mi := iX10_in) (av := [.int x2, .int 1, .int 160]) (st := []) dX10_law_14 ml_X10_152 kX10_in rfl rfl (Nat.le_of_ble_eq_true rfl) (AM.mono (p_X10_in _ _ _) (fun r9 M9 e9 => ?_))
    obtain ⟨rfl, rfl⟩ := e9
    refine aw_if_eq (tgt := 28) dX10_law_17 (by decide) (fun z => ?_) (fun z => ?_)
    · replace h := h.1 z
      refine aw_iconst (v := (-1)) dX10_law_28 (by decide) ?_
      exact aw_iret dX10_law_29 rfl rfl h
    · replace h := h.2 z
      refine aw_iload_n dX10_law_20 rfl rfl ?_
      refine aw_aload_n dX10_law_21 rfl rfl ?_
      refine aw_getf dX10_law_22 fl_X10_167 (by decide) ce_77 rfl (v := .int (M 77 10)) rfl ?_
      refine aw_icmp_le (tgt := 30) dX10_law_25 (by decide) (fun z => ?_) (fun z => ?_)
      · replace h := h.1 z
        refine aw_aload_n dX10_law_30 rfl rfl ?_
        refine aw_iconst (v := 0) dX10_law_31 (by decide) ?_
        refine aw_putf dX10_law_32 fp_X10_174 (by decide) ce_77 rfl rfl rfl ?_
        refine aw_aload_n dX10_law_35 rfl rfl ?_
        refine aw_iload_n dX10_law_36 rfl rfl ?_
        refine aw_putf dX10_law_37 fp_X10_177 (by decide) ce_77 rfl rfl rfl ?_
        refine aw_aload_n dX10_law_40 rfl rfl ?_
        refine aw_iconst (v := 0) dX10_law_41 (by decide) ?_
        refine aw_putf dX10_law_42 fp_X10_196 (by decide) ce_77 rfl rfl rfl ?_
        refine aw_aload_n dX10_law_45 rfl rfl ?_
        refine aw_iconst (v := 0) dX10_law_46 (by decide) ?_
        refine aw_putf dX10_law_47 fp_X10_250 (by decide) ce_77 rfl rfl rfl ?_
        refine aw_aload_n dX10_law_50 rfl rfl ?_
        refine aw_callV (mi := iX10_readsClause) (av := []) (st := []) dX10_law_51 ml_X10_256 kX10_readsClause (by decide) ce_77 clX10 rfl rfl rfl (Nat.le_of_ble_eq_true rfl) (AM.mono h (fun r9 M1 h => ?_))
        obtain ⟨r1, rfl, h⟩ := h
        refine aw_istore_n (L2 := [lR 77, lI x1, lI x2, lI r1, none]) dX10_law_54 rfl (by decide) rfl ?_
        exact aw_less (less_k (less_k (less_d (less_k (less_k less_nil))))) h
      · replace h := h.2 z
        refine aw_iconst (v := (-1)) dX10_law_28 (by decide) ?_
        exact aw_iret dX10_law_29 rfl rfl h
theorem bX10_law_55 {d : Nat} {Q : Option Int32 → Mem → Prop} (M : Mem) (x1 x3 : Int32) (h : (x3 = 0 → AX10_law (d + 1) Q 95 [lR 77, lI x1, none, lI x3, none] [] M) ∧ (¬ x3 = 0 → ((M 77 12) ≤ (M 77 11) → AX10_law (d + 1) Q 95 [lR 77, lI x1, none, lI x3, none] [] M) ∧ (¬ (M 77 12) ≤ (M 77 11) → AMi d iX10_takes [.ref 77, .int 59] M (fun r1 M1 => (r1 = 0 → AX10_law (d + 1) Q 55 [lR 77, lI x1, none, lI 0, none] [] M1) ∧ (¬ r1 = 0 → AMi d iX10_readsClause [.ref 77] M1 (fun r2 M2 => (r2 = 0 → AX10_law (d + 1) Q 55 [lR 77, lI x1, none, lI 0, none] [] M2) ∧ (¬ r2 = 0 → AX10_law (d + 1) Q 55 [lR 77, lI x1, none, lI 1, none] [] M2))))))) : AX10_law (d + 1) Q 55 [lR 77, lI x1, none, lI x3, none] [] M := by
  refine aw_iload_n dX10_law_55 rfl rfl ?_
  refine aw_if_eq (tgt := 95) dX10_law_56 (by decide) (fun z => ?_) (fun z => ?_)
  · replace h := h.1 z
    exact h
  · replace h := h.2 z
    refine aw_aload_n dX10_law_59 rfl rfl ?_
    refine aw_getf dX10_law_60 fl_X10_174 (by decide) ce_77 rfl (v := .int (M 77 11)) rfl ?_
    refine aw_aload_n dX10_law_63 rfl rfl ?_
    refine aw_getf dX10_law_64 fl_X10_177 (by decide) ce_77 rfl (v := .int (M 77 12)) rfl ?_
    refine aw_icmp_ge (tgt := 95) dX10_law_67 (by decide) (fun z => ?_) (fun z => ?_)
    · replace h := h.1 z
      exact h
    · replace h := h.2 z
      refine aw_aload_n dX10_law_70 rfl rfl ?_
      refine aw_bipush (v := 59) dX10_law_71 (by decide) ?_
      refine aw_callV (mi := iX10_takes) (av := [.int 59]) (st := []) dX10_law_73 ml_X10_259 kX10_takes (by decide) ce_77 clX10 rfl rfl rfl (Nat.le_of_ble_eq_true rfl) (AM.mono h (fun r9 M1 h => ?_))
      obtain ⟨r1, rfl, h⟩ := h
      refine aw_if_eq (tgt := 90) dX10_law_76 (by decide) (fun z => ?_) (fun z => ?_)
      · replace h := h.1 z
        refine aw_iconst (v := 0) dX10_law_90 (by decide) ?_
        refine aw_istore_n (L2 := [lR 77, lI x1, none, lI 0, none]) dX10_law_91 rfl (by decide) rfl ?_
        refine aw_goto (tgt := 55) dX10_law_92 (by decide) ?_
        exact h
      · replace h := h.2 z
        refine aw_aload_n dX10_law_79 rfl rfl ?_
        refine aw_callV (mi := iX10_readsClause) (av := []) (st := []) dX10_law_80 ml_X10_256 kX10_readsClause (by decide) ce_77 clX10 rfl rfl rfl (Nat.le_of_ble_eq_true rfl) (AM.mono h (fun r9 M2 h => ?_))
        obtain ⟨r2, rfl, h⟩ := h
        refine aw_if_eq (tgt := 90) dX10_law_83 (by decide) (fun z => ?_) (fun z => ?_)
        · replace h := h.1 z
          refine aw_iconst (v := 0) dX10_law_90 (by decide) ?_
          refine aw_istore_n (L2 := [lR 77, lI x1, none, lI 0, none]) dX10_law_91 rfl (by decide) rfl ?_
          refine aw_goto (tgt := 55) dX10_law_92 (by decide) ?_
          exact h
        · replace h := h.2 z
          refine aw_iconst (v := 1) dX10_law_86 (by decide) ?_
          refine aw_goto (tgt := 91) dX10_law_87 (by decide) ?_
          refine aw_istore_n (L2 := [lR 77, lI x1, none, lI 1, none]) dX10_law_91 rfl (by decide) rfl ?_
          refine aw_goto (tgt := 55) dX10_law_92 (by decide) ?_
          exact h
theorem bX10_law_95 {d : Nat} {Q : Option Int32 → Mem → Prop} (M : Mem) (x1 x3 : Int32) (h : (¬ x3 = 0 → (vp_in x1 2) ∧ (AX10_law (d + 1) Q 122 [lR 77, lI x1, none, none, lI 0] [] (wr (wr M 77 10 0) 91 (ix x1) (M 77 17)))) ∧ (x3 = 0 → Q (some (M 77 13)) (wr M 77 10 0))) : AX10_law (d + 1) Q 95 [lR 77, lI x1, none, lI x3, none] [] M := by
  refine aw_aload_n dX10_law_95 rfl rfl ?_
  refine aw_iconst (v := 0) dX10_law_96 (by decide) ?_
  refine aw_putf dX10_law_97 fp_X10_167 (by decide) ce_77 rfl rfl rfl ?_
  refine aw_iload_n dX10_law_100 rfl rfl ?_
  refine aw_if_ne (tgt := 109) dX10_law_101 (by decide) (fun z => ?_) (fun z => ?_)
  · replace h := h.1 z
    refine aw_aload_n dX10_law_109 rfl rfl ?_
    refine aw_getf dX10_law_110 fl_X10_50 (by decide) ce_77 rfl (v := .ref 91) rfl ?_
    refine aw_iload_n dX10_law_113 rfl rfl ?_
    refine aw_aload_n dX10_law_114 rfl rfl ?_
    refine aw_getf dX10_law_115 fl_X10_250 (by decide) ce_77 rfl (v := .int (M 77 17)) rfl ?_
    obtain ⟨h9, h⟩ := h
    refine aw_iast dX10_law_118 (by decide) ce_91 h9 ?_
    refine aw_iconst (v := 0) dX10_law_119 (by decide) ?_
    refine aw_istore (L2 := [lR 77, lI x1, none, lI x3, lI 0]) dX10_law_120 (by decide) rfl ?_
    exact aw_less (less_k (less_k (less_k (less_d (less_k less_nil))))) h
  · replace h := h.2 z
    refine aw_aload_n dX10_law_104 rfl rfl ?_
    refine aw_getf dX10_law_105 fl_X10_183 (by decide) ce_77 rfl (v := .int (M 77 13)) rfl ?_
    exact aw_iret dX10_law_108 rfl rfl h
theorem bX10_law_122 {d : Nat} {Q : Option Int32 → Mem → Prop} (M : Mem) (x1 x4 : Int32) (h : ((M 77 15) ≤ x4 → AX10_law (d + 1) Q 160 [lR 77, lI x1, none, none, lI 0] [] M) ∧ (¬ (M 77 15) ≤ x4 → (vp_in x4 180) ∧ ((vp_in ((180 * x1) + x4) 360) ∧ (AX10_law (d + 1) Q 122 [lR 77, lI x1, none, none, lI (x4 + 1)] [] (wr M 90 (ix ((180 * x1) + x4)) (M 84 (ix x4))))))) : AX10_law (d + 1) Q 122 [lR 77, lI x1, none, none, lI x4] [] M := by
  refine aw_iload dX10_law_122 rfl ?_
  refine aw_aload_n dX10_law_124 rfl rfl ?_
  refine aw_getf dX10_law_125 fl_X10_196 (by decide) ce_77 rfl (v := .int (M 77 15)) rfl ?_
  refine aw_icmp_ge (tgt := 157) dX10_law_128 (by decide) (fun z => ?_) (fun z => ?_)
  · replace h := h.1 z
    refine aw_iconst (v := 0) dX10_law_157 (by decide) ?_
    refine aw_istore (L2 := [lR 77, lI x1, none, none, lI 0]) dX10_law_158 (by decide) rfl ?_
    exact h
  · replace h := h.2 z
    refine aw_aload_n dX10_law_131 rfl rfl ?_
    refine aw_getf dX10_law_132 fl_X10_47 (by decide) ce_77 rfl (v := .ref 90) rfl ?_
    refine aw_sipush (v := 180) dX10_law_135 (by decide) ?_
    refine aw_iload_n dX10_law_138 rfl rfl ?_
    refine aw_imul dX10_law_139 ?_
    refine aw_iload dX10_law_140 rfl ?_
    refine aw_iadd dX10_law_142 ?_
    refine aw_aload_n dX10_law_143 rfl rfl ?_
    refine aw_getf dX10_law_144 fl_X10_29 (by decide) ce_77 rfl (v := .ref 84) rfl ?_
    refine aw_iload dX10_law_147 rfl ?_
    obtain ⟨h9, h⟩ := h
    refine aw_iald dX10_law_149 (by decide) ce_84 h9 ?_
    obtain ⟨h9, h⟩ := h
    refine aw_iast dX10_law_150 (by decide) ce_90 h9 ?_
    refine aw_iinc (y := 1) (L2 := [lR 77, lI x1, none, none, lI (x4 + 1)]) dX10_law_151 rfl (by decide) (by decide) rfl ?_
    refine aw_goto (tgt := 122) dX10_law_154 (by decide) ?_
    exact h
theorem bX10_law_160 {d : Nat} {Q : Option Int32 → Mem → Prop} (M : Mem) (x1 x4 : Int32) (h : ((M 77 17) ≤ x4 → Q (some (M 77 17)) M) ∧ (¬ (M 77 17) ≤ x4 → (vp_in x4 12) ∧ ((vp_in ((12 * x1) + x4) 24) ∧ ((vp_in x4 12) ∧ ((vp_in ((12 * x1) + x4) 24) ∧ ((vp_in x4 12) ∧ ((vp_in ((12 * x1) + x4) 24) ∧ ((vp_in x4 12) ∧ ((vp_in ((12 * x1) + x4) 24) ∧ (AX10_law (d + 1) Q 160 [lR 77, lI x1, none, none, lI (x4 + 1)] [] (wr (wr (wr (wr M 92 (ix ((12 * x1) + x4)) (M 86 (ix x4))) 93 (ix ((12 * x1) + x4)) ((180 * x1) + (M 87 (ix x4)))) 94 (ix ((12 * x1) + x4)) ((180 * x1) + (M 88 (ix x4)))) 95 (ix ((12 * x1) + x4)) ((180 * x1) + (M 89 (ix x4)))))))))))))) : AX10_law (d + 1) Q 160 [lR 77, lI x1, none, none, lI x4] [] M := by
  refine aw_iload dX10_law_160 rfl ?_
  refine aw_aload_n dX10_law_162 rfl rfl ?_
  refine aw_getf dX10_law_163 fl_X10_250 (by decide) ce_77 rfl (v := .int (M 77 17)) rfl ?_
  refine aw_icmp_ge (tgt := 269) dX10_law_166 (by decide) (fun z => ?_) (fun z => ?_)
  · replace h := h.1 z
    refine aw_aload_n dX10_law_269 rfl rfl ?_
    refine aw_getf dX10_law_270 fl_X10_250 (by decide) ce_77 rfl (v := .int (M 77 17)) rfl ?_
    exact aw_iret dX10_law_273 rfl rfl h
  · replace h := h.2 z
    refine aw_aload_n dX10_law_169 rfl rfl ?_
    refine aw_getf dX10_law_170 fl_X10_53 (by decide) ce_77 rfl (v := .ref 92) rfl ?_
    refine aw_bipush (v := 12) dX10_law_173 (by decide) ?_
    refine aw_iload_n dX10_law_175 rfl rfl ?_
    refine aw_imul dX10_law_176 ?_
    refine aw_iload dX10_law_177 rfl ?_
    refine aw_iadd dX10_law_179 ?_
    refine aw_aload_n dX10_law_180 rfl rfl ?_
    refine aw_getf dX10_law_181 fl_X10_35 (by decide) ce_77 rfl (v := .ref 86) rfl ?_
    refine aw_iload dX10_law_184 rfl ?_
    obtain ⟨h9, h⟩ := h
    refine aw_iald dX10_law_186 (by decide) ce_86 h9 ?_
    obtain ⟨h9, h⟩ := h
    refine aw_iast dX10_law_187 (by decide) ce_92 h9 ?_
    refine aw_aload_n dX10_law_188 rfl rfl ?_
    refine aw_getf dX10_law_189 fl_X10_56 (by decide) ce_77 rfl (v := .ref 93) rfl ?_
    refine aw_bipush (v := 12) dX10_law_192 (by decide) ?_
    refine aw_iload_n dX10_law_194 rfl rfl ?_
    refine aw_imul dX10_law_195 ?_
    refine aw_iload dX10_law_196 rfl ?_
    refine aw_iadd dX10_law_198 ?_
    refine aw_sipush (v := 180) dX10_law_199 (by decide) ?_
    refine aw_iload_n dX10_law_202 rfl rfl ?_
    refine aw_imul dX10_law_203 ?_
    refine aw_aload_n dX10_law_204 rfl rfl ?_
    refine aw_getf dX10_law_205 fl_X10_38 (by decide) ce_77 rfl (v := .ref 87) rfl ?_
    refine aw_iload dX10_law_208 rfl ?_
    obtain ⟨h9, h⟩ := h
    refine aw_iald dX10_law_210 (by decide) ce_87 h9 ?_
    refine aw_iadd dX10_law_211 ?_
    obtain ⟨h9, h⟩ := h
    refine aw_iast dX10_law_212 (by decide) ce_93 h9 ?_
    refine aw_aload_n dX10_law_213 rfl rfl ?_
    refine aw_getf dX10_law_214 fl_X10_59 (by decide) ce_77 rfl (v := .ref 94) rfl ?_
    refine aw_bipush (v := 12) dX10_law_217 (by decide) ?_
    refine aw_iload_n dX10_law_219 rfl rfl ?_
    refine aw_imul dX10_law_220 ?_
    refine aw_iload dX10_law_221 rfl ?_
    refine aw_iadd dX10_law_223 ?_
    refine aw_sipush (v := 180) dX10_law_224 (by decide) ?_
    refine aw_iload_n dX10_law_227 rfl rfl ?_
    refine aw_imul dX10_law_228 ?_
    refine aw_aload_n dX10_law_229 rfl rfl ?_
    refine aw_getf dX10_law_230 fl_X10_41 (by decide) ce_77 rfl (v := .ref 88) rfl ?_
    refine aw_iload dX10_law_233 rfl ?_
    obtain ⟨h9, h⟩ := h
    refine aw_iald dX10_law_235 (by decide) ce_88 h9 ?_
    refine aw_iadd dX10_law_236 ?_
    obtain ⟨h9, h⟩ := h
    refine aw_iast dX10_law_237 (by decide) ce_94 h9 ?_
    refine aw_aload_n dX10_law_238 rfl rfl ?_
    refine aw_getf dX10_law_239 fl_X10_62 (by decide) ce_77 rfl (v := .ref 95) rfl ?_
    refine aw_bipush (v := 12) dX10_law_242 (by decide) ?_
    refine aw_iload_n dX10_law_244 rfl rfl ?_
    refine aw_imul dX10_law_245 ?_
    refine aw_iload dX10_law_246 rfl ?_
    refine aw_iadd dX10_law_248 ?_
    refine aw_sipush (v := 180) dX10_law_249 (by decide) ?_
    refine aw_iload_n dX10_law_252 rfl rfl ?_
    refine aw_imul dX10_law_253 ?_
    refine aw_aload_n dX10_law_254 rfl rfl ?_
    refine aw_getf dX10_law_255 fl_X10_44 (by decide) ce_77 rfl (v := .ref 89) rfl ?_
    refine aw_iload dX10_law_258 rfl ?_
    obtain ⟨h9, h⟩ := h
    refine aw_iald dX10_law_260 (by decide) ce_89 h9 ?_
    refine aw_iadd dX10_law_261 ?_
    obtain ⟨h9, h⟩ := h
    refine aw_iast dX10_law_262 (by decide) ce_95 h9 ?_
    refine aw_iinc (y := 1) (L2 := [lR 77, lI x1, none, none, lI (x4 + 1)]) dX10_law_263 rfl (by decide) (by decide) rfl ?_
    refine aw_goto (tgt := 160) dX10_law_266 (by decide) ?_
    exact h
abbrev AX10_comesTo (d : Nat) (Q : Option Int32 → Mem → Prop) (pc : Nat) (L : List (Option Value)) (st : List Value) (M : Mem) : Prop := AW none RX10 cX10_comesTo 8 (some .int) d Q pc L st M
theorem eX10_comesTo {d : Nat} {Q : Option Int32 → Mem → Prop} (M : Mem) (x1 x2 : Int32) (h : AX10_comesTo d Q 0 [lR 77, lI x1, lI x2, none, none, none, none, none] [] M) : AM d iX10_comesTo [.ref 77, .int x1, .int x2] M Q := AM.of2 (by decide) rfl rfl h
theorem bX10_comesTo_0 {d : Nat} {Q : Option Int32 → Mem → Prop} (M : Mem) (x1 x2 : Int32) (h : AX10_comesTo (d + 1) Q 16 [lR 77, none, lI x2, lI 0, lI (180 * (x1 / 180)), lI x1, none, none] [] M) : AX10_comesTo (d + 1) Q 0 [lR 77, lI x1, lI x2, none, none, none, none, none] [] M := by
  refine aw_iconst (v := 0) dX10_comesTo_0 (by decide) ?_
  refine aw_istore_n (L2 := [lR 77, lI x1, lI x2, lI 0, none, none, none, none]) dX10_comesTo_1 rfl (by decide) rfl ?_
  refine aw_sipush (v := 180) dX10_comesTo_2 (by decide) ?_
  refine aw_iload_n dX10_comesTo_5 rfl rfl ?_
  refine aw_sipush (v := 180) dX10_comesTo_6 (by decide) ?_
  refine aw_idiv dX10_comesTo_9 (by decide) ?_
  refine aw_imul dX10_comesTo_10 ?_
  refine aw_istore (L2 := [lR 77, lI x1, lI x2, lI 0, lI (180 * (x1 / 180)), none, none, none]) dX10_comesTo_11 (by decide) rfl ?_
  refine aw_iload_n dX10_comesTo_13 rfl rfl ?_
  refine aw_istore (L2 := [lR 77, lI x1, lI x2, lI 0, lI (180 * (x1 / 180)), lI x1, none, none]) dX10_comesTo_14 (by decide) rfl ?_
  exact aw_less (less_k (less_d (less_k (less_k (less_k (less_k (less_k (less_k less_nil)))))))) h
theorem bX10_comesTo_16 {d : Nat} {Q : Option Int32 → Mem → Prop} (M : Mem) (x2 x3 x4 x5 : Int32) (h : (x2 ≤ x5 → Q (some (M 96 0)) M) ∧ (¬ x2 ≤ x5 → (vp_in x5 360) ∧ ((vp_in x5 360) ∧ ((((M 90 (ix x5)) / 1048576) = 0 → AX10_comesTo (d + 1) Q 63 [lR 77, none, lI x2, lI x3, lI x4, lI (x5 + 1), lI ((M 90 (ix x5)) / 1048576), lI ((M 90 (ix x5)) - (M 90 (ix x5)) / 1048576 * 1048576)] [] M) ∧ (¬ ((M 90 (ix x5)) / 1048576) = 0 → (¬ ((M 90 (ix x5)) / 1048576) = 1 → (¬ ((M 90 (ix x5)) / 1048576) = 10 → (((M 90 (ix x5)) / 1048576) = 11 → AX10_comesTo (d + 1) Q 135 [lR 77, none, lI x2, lI x3, lI x4, lI (x5 + 1), lI ((M 90 (ix x5)) / 1048576), lI ((M 90 (ix x5)) - (M 90 (ix x5)) / 1048576 * 1048576)] [] M) ∧ (¬ ((M 90 (ix x5)) / 1048576) = 11 → (¬ ((M 90 (ix x5)) / 1048576) = 12 → (((M 90 (ix x5)) / 1048576) = 5 → AX10_comesTo (d + 1) Q 192 [lR 77, none, lI x2, lI (x3 - 1), lI x4, lI (x5 + 1), lI ((M 90 (ix x5)) / 1048576), none] [] M) ∧ (¬ ((M 90 (ix x5)) / 1048576) = 5 → (¬ ((M 90 (ix x5)) / 1048576) = 6 → AX10_comesTo (d + 1) Q 203 [lR 77, none, lI x2, lI (x3 - 1), lI x4, lI (x5 + 1), lI ((M 90 (ix x5)) / 1048576), none] [] M) ∧ (((M 90 (ix x5)) / 1048576) = 6 → AX10_comesTo (d + 1) Q 192 [lR 77, none, lI x2, lI (x3 - 1), lI x4, lI (x5 + 1), lI ((M 90 (ix x5)) / 1048576), none] [] M))) ∧ (((M 90 (ix x5)) / 1048576) = 12 → AX10_comesTo (d + 1) Q 135 [lR 77, none, lI x2, lI x3, lI x4, lI (x5 + 1), lI ((M 90 (ix x5)) / 1048576), lI ((M 90 (ix x5)) - (M 90 (ix x5)) / 1048576 * 1048576)] [] M))) ∧ (((M 90 (ix x5)) / 1048576) = 10 → (vp_in (x3 - 1) 180) ∧ ((vp_in (x3 - 1) 180) ∧ (AX10_comesTo (d + 1) Q 16 [lR 77, none, lI x2, lI x3, lI x4, lI (x5 + 1), none, none] [] (wr M 96 (ix (x3 - 1)) (1 - (M 96 (ix (x3 - 1))))))))) ∧ (((M 90 (ix x5)) / 1048576) = 1 → AX10_comesTo (d + 1) Q 63 [lR 77, none, lI x2, lI x3, lI x4, lI (x5 + 1), lI ((M 90 (ix x5)) / 1048576), lI ((M 90 (ix x5)) - (M 90 (ix x5)) / 1048576 * 1048576)] [] M)))))) : AX10_comesTo (d + 1) Q 16 [lR 77, none, lI x2, lI x3, lI x4, lI x5, none, none] [] M := by
  refine aw_iload dX10_comesTo_16 rfl ?_
  refine aw_iload_n dX10_comesTo_18 rfl rfl ?_
  refine aw_icmp_ge (tgt := 233) dX10_comesTo_19 (by decide) (fun z => ?_) (fun z => ?_)
  · replace h := h.1 z
    refine aw_aload_n dX10_comesTo_233 rfl rfl ?_
    refine aw_getf dX10_comesTo_234 fl_X10_65 (by decide) ce_77 rfl (v := .ref 96) rfl ?_
    refine aw_iconst (v := 0) dX10_comesTo_237 (by decide) ?_
    refine aw_iald dX10_comesTo_238 (by decide) ce_96 (by unfold vp_in; decide) ?_
    exact aw_iret dX10_comesTo_239 rfl rfl h
  · replace h := h.2 z
    refine aw_aload_n dX10_comesTo_22 rfl rfl ?_
    refine aw_getf dX10_comesTo_23 fl_X10_47 (by decide) ce_77 rfl (v := .ref 90) rfl ?_
    refine aw_iload dX10_comesTo_26 rfl ?_
    obtain ⟨h9, h⟩ := h
    refine aw_iald dX10_comesTo_28 (by decide) ce_90 h9 ?_
    refine aw_ldc dX10_comesTo_29 kc_X10_199 ?_
    refine aw_idiv dX10_comesTo_31 (by decide) ?_
    refine aw_istore (L2 := [lR 77, none, lI x2, lI x3, lI x4, lI x5, lI ((M 90 (ix x5)) / 1048576), none]) dX10_comesTo_32 (by decide) rfl ?_
    refine aw_aload_n dX10_comesTo_34 rfl rfl ?_
    refine aw_getf dX10_comesTo_35 fl_X10_47 (by decide) ce_77 rfl (v := .ref 90) rfl ?_
    refine aw_iload dX10_comesTo_38 rfl ?_
    obtain ⟨h9, h⟩ := h
    refine aw_iald dX10_comesTo_40 (by decide) ce_90 h9 ?_
    refine aw_ldc dX10_comesTo_41 kc_X10_199 ?_
    refine aw_irem dX10_comesTo_43 (by decide) ?_
    refine aw_istore (L2 := [lR 77, none, lI x2, lI x3, lI x4, lI x5, lI ((M 90 (ix x5)) / 1048576), lI ((M 90 (ix x5)) - (M 90 (ix x5)) / 1048576 * 1048576)]) dX10_comesTo_44 (by decide) rfl ?_
    refine aw_iload dX10_comesTo_46 rfl ?_
    refine aw_iconst (v := 1) dX10_comesTo_48 (by decide) ?_
    refine aw_iadd dX10_comesTo_49 ?_
    refine aw_istore (L2 := [lR 77, none, lI x2, lI x3, lI x4, lI (x5 + 1), lI ((M 90 (ix x5)) / 1048576), lI ((M 90 (ix x5)) - (M 90 (ix x5)) / 1048576 * 1048576)]) dX10_comesTo_50 (by decide) rfl ?_
    refine aw_iload dX10_comesTo_52 rfl ?_
    refine aw_if_eq (tgt := 63) dX10_comesTo_54 (by decide) (fun z => ?_) (fun z => ?_)
    · replace h := h.1 z
      exact h
    · replace h := h.2 z
      refine aw_iload dX10_comesTo_57 rfl ?_
      refine aw_iconst (v := 1) dX10_comesTo_59 (by decide) ?_
      refine aw_icmp_ne (tgt := 93) dX10_comesTo_60 (by decide) (fun z => ?_) (fun z => ?_)
      · replace h := h.1 z
        refine aw_iload dX10_comesTo_93 rfl ?_
        refine aw_bipush (v := 10) dX10_comesTo_95 (by decide) ?_
        refine aw_icmp_ne (tgt := 121) dX10_comesTo_97 (by decide) (fun z => ?_) (fun z => ?_)
        · replace h := h.1 z
          refine aw_iload dX10_comesTo_121 rfl ?_
          refine aw_bipush (v := 11) dX10_comesTo_123 (by decide) ?_
          refine aw_icmp_eq (tgt := 135) dX10_comesTo_125 (by decide) (fun z => ?_) (fun z => ?_)
          · replace h := h.1 z
            exact h
          · replace h := h.2 z
            refine aw_iload dX10_comesTo_128 rfl ?_
            refine aw_bipush (v := 12) dX10_comesTo_130 (by decide) ?_
            refine aw_icmp_ne (tgt := 175) dX10_comesTo_132 (by decide) (fun z => ?_) (fun z => ?_)
            · replace h := h.1 z
              refine aw_iload_n dX10_comesTo_175 rfl rfl ?_
              refine aw_iconst (v := 1) dX10_comesTo_176 (by decide) ?_
              refine aw_isub dX10_comesTo_177 ?_
              refine aw_istore_n (L2 := [lR 77, none, lI x2, lI (x3 - 1), lI x4, lI (x5 + 1), lI ((M 90 (ix x5)) / 1048576), lI ((M 90 (ix x5)) - (M 90 (ix x5)) / 1048576 * 1048576)]) dX10_comesTo_178 rfl (by decide) rfl ?_
              refine aw_iload dX10_comesTo_179 rfl ?_
              refine aw_iconst (v := 5) dX10_comesTo_181 (by decide) ?_
              refine aw_icmp_eq (tgt := 192) dX10_comesTo_182 (by decide) (fun z => ?_) (fun z => ?_)
              · replace h := h.1 z
                exact aw_less (less_k (less_k (less_k (less_k (less_k (less_k (less_k (less_d less_nil)))))))) h
              · replace h := h.2 z
                refine aw_iload dX10_comesTo_185 rfl ?_
                refine aw_bipush (v := 6) dX10_comesTo_187 (by decide) ?_
                refine aw_icmp_ne (tgt := 203) dX10_comesTo_189 (by decide) (fun z => ?_) (fun z => ?_)
                · replace h := h.1 z
                  exact aw_less (less_k (less_k (less_k (less_k (less_k (less_k (less_k (less_d less_nil)))))))) h
                · replace h := h.2 z
                  exact aw_less (less_k (less_k (less_k (less_k (less_k (less_k (less_k (less_d less_nil)))))))) h
            · replace h := h.2 z
              exact h
        · replace h := h.2 z
          refine aw_aload_n dX10_comesTo_100 rfl rfl ?_
          refine aw_getf dX10_comesTo_101 fl_X10_65 (by decide) ce_77 rfl (v := .ref 96) rfl ?_
          refine aw_iload_n dX10_comesTo_104 rfl rfl ?_
          refine aw_iconst (v := 1) dX10_comesTo_105 (by decide) ?_
          refine aw_isub dX10_comesTo_106 ?_
          refine aw_iconst (v := 1) dX10_comesTo_107 (by decide) ?_
          refine aw_aload_n dX10_comesTo_108 rfl rfl ?_
          refine aw_getf dX10_comesTo_109 fl_X10_65 (by decide) ce_77 rfl (v := .ref 96) rfl ?_
          refine aw_iload_n dX10_comesTo_112 rfl rfl ?_
          refine aw_iconst (v := 1) dX10_comesTo_113 (by decide) ?_
          refine aw_isub dX10_comesTo_114 ?_
          obtain ⟨h9, h⟩ := h
          refine aw_iald dX10_comesTo_115 (by decide) ce_96 h9 ?_
          refine aw_isub dX10_comesTo_116 ?_
          obtain ⟨h9, h⟩ := h
          refine aw_iast dX10_comesTo_117 (by decide) ce_96 h9 ?_
          refine aw_goto (tgt := 230) dX10_comesTo_118 (by decide) ?_
          refine aw_goto (tgt := 16) dX10_comesTo_230 (by decide) ?_
          exact aw_less (less_k (less_k (less_k (less_k (less_k (less_k (less_d (less_d less_nil)))))))) h
      · replace h := h.2 z
        exact h
theorem bX10_comesTo_63 {d : Nat} {Q : Option Int32 → Mem → Prop} (M : Mem) (x2 x3 x4 x5 x6 x7 : Int32) (h : (¬ x6 = 0 → (vp_in x7 12) ∧ ((vp_in x3 180) ∧ (AX10_comesTo (d + 1) Q 16 [lR 77, none, lI x2, lI (x3 + 1), lI x4, lI x5, none, none] [] (wr M 96 (ix x3) (M 97 (ix x7)))))) ∧ (x6 = 0 → (vp_in x3 180) ∧ (AX10_comesTo (d + 1) Q 16 [lR 77, none, lI x2, lI (x3 + 1), lI x4, lI x5, none, none] [] (wr M 96 (ix x3) x7)))) : AX10_comesTo (d + 1) Q 63 [lR 77, none, lI x2, lI x3, lI x4, lI x5, lI x6, lI x7] [] M := by
  refine aw_aload_n dX10_comesTo_63 rfl rfl ?_
  refine aw_getf dX10_comesTo_64 fl_X10_65 (by decide) ce_77 rfl (v := .ref 96) rfl ?_
  refine aw_iload_n dX10_comesTo_67 rfl rfl ?_
  refine aw_iload dX10_comesTo_68 rfl ?_
  refine aw_if_ne (tgt := 78) dX10_comesTo_70 (by decide) (fun z => ?_) (fun z => ?_)
  · replace h := h.1 z
    refine aw_aload_n dX10_comesTo_78 rfl rfl ?_
    refine aw_getf dX10_comesTo_79 fl_X10_68 (by decide) ce_77 rfl (v := .ref 97) rfl ?_
    refine aw_iload dX10_comesTo_82 rfl ?_
    obtain ⟨h9, h⟩ := h
    refine aw_iald dX10_comesTo_84 (by decide) ce_97 h9 ?_
    obtain ⟨h9, h⟩ := h
    refine aw_iast dX10_comesTo_85 (by decide) ce_96 h9 ?_
    refine aw_iload_n dX10_comesTo_86 rfl rfl ?_
    refine aw_iconst (v := 1) dX10_comesTo_87 (by decide) ?_
    refine aw_iadd dX10_comesTo_88 ?_
    refine aw_istore_n (L2 := [lR 77, none, lI x2, lI (x3 + 1), lI x4, lI x5, lI x6, lI x7]) dX10_comesTo_89 rfl (by decide) rfl ?_
    refine aw_goto (tgt := 230) dX10_comesTo_90 (by decide) ?_
    refine aw_goto (tgt := 16) dX10_comesTo_230 (by decide) ?_
    exact aw_less (less_k (less_k (less_k (less_k (less_k (less_k (less_d (less_d less_nil)))))))) h
  · replace h := h.2 z
    refine aw_iload dX10_comesTo_73 rfl ?_
    refine aw_goto (tgt := 85) dX10_comesTo_75 (by decide) ?_
    obtain ⟨h9, h⟩ := h
    refine aw_iast dX10_comesTo_85 (by decide) ce_96 h9 ?_
    refine aw_iload_n dX10_comesTo_86 rfl rfl ?_
    refine aw_iconst (v := 1) dX10_comesTo_87 (by decide) ?_
    refine aw_iadd dX10_comesTo_88 ?_
    refine aw_istore_n (L2 := [lR 77, none, lI x2, lI (x3 + 1), lI x4, lI x5, lI x6, lI x7]) dX10_comesTo_89 rfl (by decide) rfl ?_
    refine aw_goto (tgt := 230) dX10_comesTo_90 (by decide) ?_
    refine aw_goto (tgt := 16) dX10_comesTo_230 (by decide) ?_
    exact aw_less (less_k (less_k (less_k (less_k (less_k (less_k (less_d (less_d less_nil)))))))) h
theorem bX10_comesTo_135 {d : Nat} {Q : Option Int32 → Mem → Prop} (M : Mem) (x2 x3 x4 x5 x6 x7 : Int32) (h : (vp_in (x3 - 1) 180) ∧ ((¬ x6 = 12 → AX10_comesTo (d + 1) Q 155 [lR 77, none, lI x2, lI x3, lI x4, lI x5, none, lI x7] [.int 0, .int (M 96 (ix (x3 - 1)))] M) ∧ (x6 = 12 → AX10_comesTo (d + 1) Q 155 [lR 77, none, lI x2, lI x3, lI x4, lI x5, none, lI x7] [.int 1, .int (M 96 (ix (x3 - 1)))] M))) : AX10_comesTo (d + 1) Q 135 [lR 77, none, lI x2, lI x3, lI x4, lI x5, lI x6, lI x7] [] M := by
  refine aw_aload_n dX10_comesTo_135 rfl rfl ?_
  refine aw_getf dX10_comesTo_136 fl_X10_65 (by decide) ce_77 rfl (v := .ref 96) rfl ?_
  refine aw_iload_n dX10_comesTo_139 rfl rfl ?_
  refine aw_iconst (v := 1) dX10_comesTo_140 (by decide) ?_
  refine aw_isub dX10_comesTo_141 ?_
  obtain ⟨h9, h⟩ := h
  refine aw_iald dX10_comesTo_142 (by decide) ce_96 h9 ?_
  refine aw_iload dX10_comesTo_143 rfl ?_
  refine aw_bipush (v := 12) dX10_comesTo_145 (by decide) ?_
  refine aw_icmp_ne (tgt := 154) dX10_comesTo_147 (by decide) (fun z => ?_) (fun z => ?_)
  · replace h := h.1 z
    refine aw_iconst (v := 0) dX10_comesTo_154 (by decide) ?_
    exact aw_less (less_k (less_k (less_k (less_k (less_k (less_k (less_d (less_k less_nil)))))))) h
  · replace h := h.2 z
    refine aw_iconst (v := 1) dX10_comesTo_150 (by decide) ?_
    refine aw_goto (tgt := 155) dX10_comesTo_151 (by decide) ?_
    exact aw_less (less_k (less_k (less_k (less_k (less_k (less_k (less_d (less_k less_nil)))))))) h
theorem bX10_comesTo_155 {d : Nat} {Q : Option Int32 → Mem → Prop} (M : Mem) (x2 x3 x4 x5 x7 s0 s1 : Int32) (h : (¬ s1 = s0 → AX10_comesTo (d + 1) Q 16 [lR 77, none, lI x2, lI (x3 - 1), lI x4, lI x5, none, none] [] M) ∧ (s1 = s0 → AX10_comesTo (d + 1) Q 16 [lR 77, none, lI x2, lI x3, lI x4, lI (x4 + x7), none, none] [] M)) : AX10_comesTo (d + 1) Q 155 [lR 77, none, lI x2, lI x3, lI x4, lI x5, none, lI x7] [.int s0, .int s1] M := by
  refine aw_icmp_ne (tgt := 168) dX10_comesTo_155 (by decide) (fun z => ?_) (fun z => ?_)
  · replace h := h.1 z
    refine aw_iload_n dX10_comesTo_168 rfl rfl ?_
    refine aw_iconst (v := 1) dX10_comesTo_169 (by decide) ?_
    refine aw_isub dX10_comesTo_170 ?_
    refine aw_istore_n (L2 := [lR 77, none, lI x2, lI (x3 - 1), lI x4, lI x5, none, lI x7]) dX10_comesTo_171 rfl (by decide) rfl ?_
    refine aw_goto (tgt := 230) dX10_comesTo_172 (by decide) ?_
    refine aw_goto (tgt := 16) dX10_comesTo_230 (by decide) ?_
    exact aw_less (less_k (less_k (less_k (less_k (less_k (less_k (less_k (less_d less_nil)))))))) h
  · replace h := h.2 z
    refine aw_iload dX10_comesTo_158 rfl ?_
    refine aw_iload dX10_comesTo_160 rfl ?_
    refine aw_iadd dX10_comesTo_162 ?_
    refine aw_istore (L2 := [lR 77, none, lI x2, lI x3, lI x4, lI (x4 + x7), none, lI x7]) dX10_comesTo_163 (by decide) rfl ?_
    refine aw_goto (tgt := 230) dX10_comesTo_165 (by decide) ?_
    refine aw_goto (tgt := 16) dX10_comesTo_230 (by decide) ?_
    exact aw_less (less_k (less_k (less_k (less_k (less_k (less_k (less_k (less_d less_nil)))))))) h
theorem bX10_comesTo_192 {d : Nat} {Q : Option Int32 → Mem → Prop} (M : Mem) (x2 x3 x4 x5 x6 : Int32) (h : (vp_in x3 180) ∧ ((¬ (M 96 (ix x3)) = 0 → AX10_comesTo (d + 1) Q 203 [lR 77, none, lI x2, lI x3, lI x4, lI x5, lI x6, none] [] M) ∧ ((M 96 (ix x3)) = 0 → Q (some 0) M))) : AX10_comesTo (d + 1) Q 192 [lR 77, none, lI x2, lI x3, lI x4, lI x5, lI x6, none] [] M := by
  refine aw_aload_n dX10_comesTo_192 rfl rfl ?_
  refine aw_getf dX10_comesTo_193 fl_X10_65 (by decide) ce_77 rfl (v := .ref 96) rfl ?_
  refine aw_iload_n dX10_comesTo_196 rfl rfl ?_
  obtain ⟨h9, h⟩ := h
  refine aw_iald dX10_comesTo_197 (by decide) ce_96 h9 ?_
  refine aw_if_ne (tgt := 203) dX10_comesTo_198 (by decide) (fun z => ?_) (fun z => ?_)
  · replace h := h.1 z
    exact h
  · replace h := h.2 z
    refine aw_iconst (v := 0) dX10_comesTo_201 (by decide) ?_
    exact aw_iret dX10_comesTo_202 rfl rfl h
theorem bX10_comesTo_203 {d : Nat} {Q : Option Int32 → Mem → Prop} (M : Mem) (x2 x3 x4 x5 x6 : Int32) (h : (vp_in (x3 - 1) 180) ∧ ((vp_in x3 180) ∧ (AMi d iX10_reckon [.int x6, .int (M 96 (ix (x3 - 1))), .int (M 96 (ix x3))] M (fun r1 M1 => (vp_in (x3 - 1) 180) ∧ (AX10_comesTo (d + 1) Q 16 [lR 77, none, lI x2, lI x3, lI x4, lI x5, none, none] [] (wr M1 96 (ix (x3 - 1)) r1)))))) : AX10_comesTo (d + 1) Q 203 [lR 77, none, lI x2, lI x3, lI x4, lI x5, lI x6, none] [] M := by
  refine aw_aload_n dX10_comesTo_203 rfl rfl ?_
  refine aw_getf dX10_comesTo_204 fl_X10_65 (by decide) ce_77 rfl (v := .ref 96) rfl ?_
  refine aw_iload_n dX10_comesTo_207 rfl rfl ?_
  refine aw_iconst (v := 1) dX10_comesTo_208 (by decide) ?_
  refine aw_isub dX10_comesTo_209 ?_
  refine aw_iload dX10_comesTo_210 rfl ?_
  refine aw_aload_n dX10_comesTo_212 rfl rfl ?_
  refine aw_getf dX10_comesTo_213 fl_X10_65 (by decide) ce_77 rfl (v := .ref 96) rfl ?_
  refine aw_iload_n dX10_comesTo_216 rfl rfl ?_
  refine aw_iconst (v := 1) dX10_comesTo_217 (by decide) ?_
  refine aw_isub dX10_comesTo_218 ?_
  obtain ⟨h9, h⟩ := h
  refine aw_iald dX10_comesTo_219 (by decide) ce_96 h9 ?_
  refine aw_aload_n dX10_comesTo_220 rfl rfl ?_
  refine aw_getf dX10_comesTo_221 fl_X10_65 (by decide) ce_77 rfl (v := .ref 96) rfl ?_
  refine aw_iload_n dX10_comesTo_224 rfl rfl ?_
  obtain ⟨h9, h⟩ := h
  refine aw_iald dX10_comesTo_225 (by decide) ce_96 h9 ?_
  refine aw_callS (mi := iX10_reckon) (av := [.int x6, .int (M 96 (ix (x3 - 1))), .int (M 96 (ix x3))]) (st := [.int (x3 - 1), .ref 96]) dX10_comesTo_226 ml_X10_262 kX10_reckon rfl rfl (Nat.le_of_ble_eq_true rfl) (AM.mono h (fun r9 M1 h => ?_))
  obtain ⟨r1, rfl, h⟩ := h
  obtain ⟨h9, h⟩ := h
  refine aw_iast dX10_comesTo_229 (by decide) ce_96 h9 ?_
  refine aw_goto (tgt := 16) dX10_comesTo_230 (by decide) ?_
  exact aw_less (less_k (less_k (less_k (less_k (less_k (less_k (less_d (less_k less_nil)))))))) h
abbrev AX10_byLaw (d : Nat) (Q : Option Int32 → Mem → Prop) (pc : Nat) (L : List (Option Value)) (st : List Value) (M : Mem) : Prop := AW none RX10 cX10_byLaw 6 (some .int) d Q pc L st M
theorem eX10_byLaw {d : Nat} {Q : Option Int32 → Mem → Prop} (M : Mem) (x1 x2 x3 : Int32) (h : AX10_byLaw d Q 0 [lR 77, lI x1, lI x2, lI x3, none, none] [] M) : AM d iX10_byLaw [.ref 77, .int x1, .int x2, .int x3] M Q := AM.of2 (by decide) rfl rfl h
theorem bX10_byLaw_0 {d : Nat} {Q : Option Int32 → Mem → Prop} (M : Mem) (x1 x2 x3 : Int32) (h : AX10_byLaw (d + 1) Q 6 [lR 77, lI x1, lI x2, lI x3, lI (12 * x1), none] [] M) : AX10_byLaw (d + 1) Q 0 [lR 77, lI x1, lI x2, lI x3, none, none] [] M := by
  refine aw_bipush (v := 12) dX10_byLaw_0 (by decide) ?_
  refine aw_iload_n dX10_byLaw_2 rfl rfl ?_
  refine aw_imul dX10_byLaw_3 ?_
  refine aw_istore (L2 := [lR 77, lI x1, lI x2, lI x3, lI (12 * x1), none]) dX10_byLaw_4 (by decide) rfl ?_
  exact h
theorem bX10_byLaw_6 {d : Nat} {Q : Option Int32 → Mem → Prop} (M : Mem) (x1 x2 x3 x4 : Int32) (h : (vp_in x1 2) ∧ ((((12 * x1) + (M 91 (ix x1))) ≤ x4 → Q (some 0) M) ∧ (¬ ((12 * x1) + (M 91 (ix x1))) ≤ x4 → (vp_in x4 24) ∧ ((¬ (M 92 (ix x4)) = x2 → AX10_byLaw (d + 1) Q 6 [lR 77, lI x1, lI x2, lI x3, lI (x4 + 1), none] [] M) ∧ ((M 92 (ix x4)) = x2 → (vp_in x4 24) ∧ ((vp_in x4 24) ∧ (AMi d iX10_comesTo [.ref 77, .int (M 94 (ix x4)), .int (M 95 (ix x4))] M (fun r1 M1 => (r1 = 1 → (vp_in x4 24) ∧ ((vp_in x4 24) ∧ (AMi d iX10_comesTo [.ref 77, .int (M1 93 (ix x4)), .int (M1 94 (ix x4))] M1 (fun r2 M2 => (0 ≤ r2 → (r2 ≤ x3 → Q (some r2) M2) ∧ (¬ r2 ≤ x3 → Q (some x3) M2)) ∧ (¬ 0 ≤ r2 → Q (some 0) M2))))) ∧ (¬ r1 = 1 → AX10_byLaw (d + 1) Q 6 [lR 77, lI x1, lI x2, lI x3, lI (x4 + 1), none] [] M1))))))))) : AX10_byLaw (d + 1) Q 6 [lR 77, lI x1, lI x2, lI x3, lI x4, none] [] M := by
  refine aw_iload dX10_byLaw_6 rfl ?_
  refine aw_bipush (v := 12) dX10_byLaw_8 (by decide) ?_
  refine aw_iload_n dX10_byLaw_10 rfl rfl ?_
  refine aw_imul dX10_byLaw_11 ?_
  refine aw_aload_n dX10_byLaw_12 rfl rfl ?_
  refine aw_getf dX10_byLaw_13 fl_X10_50 (by decide) ce_77 rfl (v := .ref 91) rfl ?_
  refine aw_iload_n dX10_byLaw_16 rfl rfl ?_
  obtain ⟨h9, h⟩ := h
  refine aw_iald dX10_byLaw_17 (by decide) ce_91 h9 ?_
  refine aw_iadd dX10_byLaw_18 ?_
  refine aw_icmp_ge (tgt := 106) dX10_byLaw_19 (by decide) (fun z => ?_) (fun z => ?_)
  · replace h := h.1 z
    refine aw_iconst (v := 0) dX10_byLaw_106 (by decide) ?_
    exact aw_iret dX10_byLaw_107 rfl rfl h
  · replace h := h.2 z
    refine aw_aload_n dX10_byLaw_22 rfl rfl ?_
    refine aw_getf dX10_byLaw_23 fl_X10_53 (by decide) ce_77 rfl (v := .ref 92) rfl ?_
    refine aw_iload dX10_byLaw_26 rfl ?_
    obtain ⟨h9, h⟩ := h
    refine aw_iald dX10_byLaw_28 (by decide) ce_92 h9 ?_
    refine aw_iload_n dX10_byLaw_29 rfl rfl ?_
    refine aw_icmp_ne (tgt := 100) dX10_byLaw_30 (by decide) (fun z => ?_) (fun z => ?_)
    · replace h := h.1 z
      refine aw_iinc (y := 1) (L2 := [lR 77, lI x1, lI x2, lI x3, lI (x4 + 1), none]) dX10_byLaw_100 rfl (by decide) (by decide) rfl ?_
      refine aw_goto (tgt := 6) dX10_byLaw_103 (by decide) ?_
      exact h
    · replace h := h.2 z
      refine aw_aload_n dX10_byLaw_33 rfl rfl ?_
      refine aw_aload_n dX10_byLaw_34 rfl rfl ?_
      refine aw_getf dX10_byLaw_35 fl_X10_59 (by decide) ce_77 rfl (v := .ref 94) rfl ?_
      refine aw_iload dX10_byLaw_38 rfl ?_
      obtain ⟨h9, h⟩ := h
      refine aw_iald dX10_byLaw_40 (by decide) ce_94 h9 ?_
      refine aw_aload_n dX10_byLaw_41 rfl rfl ?_
      refine aw_getf dX10_byLaw_42 fl_X10_62 (by decide) ce_77 rfl (v := .ref 95) rfl ?_
      refine aw_iload dX10_byLaw_45 rfl ?_
      obtain ⟨h9, h⟩ := h
      refine aw_iald dX10_byLaw_47 (by decide) ce_95 h9 ?_
      refine aw_callV (mi := iX10_comesTo) (av := [.int (M 94 (ix x4)), .int (M 95 (ix x4))]) (st := []) dX10_byLaw_48 ml_X10_266 kX10_comesTo (by decide) ce_77 clX10 rfl rfl rfl (Nat.le_of_ble_eq_true rfl) (AM.mono h (fun r9 M1 h => ?_))
      obtain ⟨r1, rfl, h⟩ := h
      refine aw_iconst (v := 1) dX10_byLaw_51 (by decide) ?_
      refine aw_icmp_eq (tgt := 58) dX10_byLaw_52 (by decide) (fun z => ?_) (fun z => ?_)
      · replace h := h.1 z
        refine aw_aload_n dX10_byLaw_58 rfl rfl ?_
        refine aw_aload_n dX10_byLaw_59 rfl rfl ?_
        refine aw_getf dX10_byLaw_60 fl_X10_56 (by decide) ce_77 rfl (v := .ref 93) rfl ?_
        refine aw_iload dX10_byLaw_63 rfl ?_
        obtain ⟨h9, h⟩ := h
        refine aw_iald dX10_byLaw_65 (by decide) ce_93 h9 ?_
        refine aw_aload_n dX10_byLaw_66 rfl rfl ?_
        refine aw_getf dX10_byLaw_67 fl_X10_59 (by decide) ce_77 rfl (v := .ref 94) rfl ?_
        refine aw_iload dX10_byLaw_70 rfl ?_
        obtain ⟨h9, h⟩ := h
        refine aw_iald dX10_byLaw_72 (by decide) ce_94 h9 ?_
        refine aw_callV (mi := iX10_comesTo) (av := [.int (M1 93 (ix x4)), .int (M1 94 (ix x4))]) (st := []) dX10_byLaw_73 ml_X10_266 kX10_comesTo (by decide) ce_77 clX10 rfl rfl rfl (Nat.le_of_ble_eq_true rfl) (AM.mono h (fun r9 M2 h => ?_))
        obtain ⟨r2, rfl, h⟩ := h
        refine aw_istore (L2 := [lR 77, lI x1, lI x2, lI x3, lI x4, lI r2]) dX10_byLaw_76 (by decide) rfl ?_
        refine aw_iload dX10_byLaw_78 rfl ?_
        refine aw_if_ge (tgt := 87) dX10_byLaw_80 (by decide) (fun z => ?_) (fun z => ?_)
        · replace h := h.1 z
          refine aw_iload dX10_byLaw_87 rfl ?_
          refine aw_iload_n dX10_byLaw_89 rfl rfl ?_
          refine aw_icmp_le (tgt := 97) dX10_byLaw_90 (by decide) (fun z => ?_) (fun z => ?_)
          · replace h := h.1 z
            refine aw_iload dX10_byLaw_97 rfl ?_
            exact aw_iret dX10_byLaw_99 rfl rfl h
          · replace h := h.2 z
            refine aw_iload_n dX10_byLaw_93 rfl rfl ?_
            refine aw_goto (tgt := 99) dX10_byLaw_94 (by decide) ?_
            exact aw_iret dX10_byLaw_99 rfl rfl h
        · replace h := h.2 z
          refine aw_iconst (v := 0) dX10_byLaw_83 (by decide) ?_
          refine aw_goto (tgt := 99) dX10_byLaw_84 (by decide) ?_
          exact aw_iret dX10_byLaw_99 rfl rfl h
      · replace h := h.2 z
        refine aw_goto (tgt := 100) dX10_byLaw_55 (by decide) ?_
        refine aw_iinc (y := 1) (L2 := [lR 77, lI x1, lI x2, lI x3, lI (x4 + 1), none]) dX10_byLaw_100 rfl (by decide) (by decide) rfl ?_
        refine aw_goto (tgt := 6) dX10_byLaw_103 (by decide) ?_
        exact h
abbrev AX10_anyBy (d : Nat) (Q : Option Int32 → Mem → Prop) (pc : Nat) (L : List (Option Value)) (st : List Value) (M : Mem) : Prop := AW none RX10 cX10_anyBy 4 (some .boolean) d Q pc L st M
theorem eX10_anyBy {d : Nat} {Q : Option Int32 → Mem → Prop} (M : Mem) (x1 x2 : Int32) (h : AX10_anyBy d Q 0 [lR 77, lI x1, lI x2, none] [] M) : AM d iX10_anyBy [.ref 77, .int x1, .int x2] M Q := AM.of2 (by decide) rfl rfl h
theorem bX10_anyBy_0 {d : Nat} {Q : Option Int32 → Mem → Prop} (M : Mem) (x1 x2 : Int32) (h : AX10_anyBy (d + 1) Q 5 [lR 77, lI x1, lI x2, lI (12 * x1)] [] M) : AX10_anyBy (d + 1) Q 0 [lR 77, lI x1, lI x2, none] [] M := by
  refine aw_bipush (v := 12) dX10_anyBy_0 (by decide) ?_
  refine aw_iload_n dX10_anyBy_2 rfl rfl ?_
  refine aw_imul dX10_anyBy_3 ?_
  refine aw_istore_n (L2 := [lR 77, lI x1, lI x2, lI (12 * x1)]) dX10_anyBy_4 rfl (by decide) rfl ?_
  exact h
theorem bX10_anyBy_5 {d : Nat} {Q : Option Int32 → Mem → Prop} (M : Mem) (x1 x2 x3 : Int32) (h : (vp_in x1 2) ∧ ((((12 * x1) + (M 91 (ix x1))) ≤ x3 → Q (some 0) M) ∧ (¬ ((12 * x1) + (M 91 (ix x1))) ≤ x3 → (vp_in x3 24) ∧ ((¬ (M 92 (ix x3)) = x2 → AX10_anyBy (d + 1) Q 5 [lR 77, lI x1, lI x2, lI (x3 + 1)] [] M) ∧ ((M 92 (ix x3)) = x2 → (vp_in x3 24) ∧ ((vp_in x3 24) ∧ (AMi d iX10_comesTo [.ref 77, .int (M 94 (ix x3)), .int (M 95 (ix x3))] M (fun r1 M1 => (¬ r1 = 1 → AX10_anyBy (d + 1) Q 5 [lR 77, lI x1, lI x2, lI (x3 + 1)] [] M1) ∧ (r1 = 1 → Q (some 1) M1))))))))) : AX10_anyBy (d + 1) Q 5 [lR 77, lI x1, lI x2, lI x3] [] M := by
  refine aw_iload_n dX10_anyBy_5 rfl rfl ?_
  refine aw_bipush (v := 12) dX10_anyBy_6 (by decide) ?_
  refine aw_iload_n dX10_anyBy_8 rfl rfl ?_
  refine aw_imul dX10_anyBy_9 ?_
  refine aw_aload_n dX10_anyBy_10 rfl rfl ?_
  refine aw_getf dX10_anyBy_11 fl_X10_50 (by decide) ce_77 rfl (v := .ref 91) rfl ?_
  refine aw_iload_n dX10_anyBy_14 rfl rfl ?_
  obtain ⟨h9, h⟩ := h
  refine aw_iald dX10_anyBy_15 (by decide) ce_91 h9 ?_
  refine aw_iadd dX10_anyBy_16 ?_
  refine aw_icmp_ge (tgt := 58) dX10_anyBy_17 (by decide) (fun z => ?_) (fun z => ?_)
  · replace h := h.1 z
    refine aw_iconst (v := 0) dX10_anyBy_58 (by decide) ?_
    exact aw_iret dX10_anyBy_59 rfl (nar_b (by decide)) h
  · replace h := h.2 z
    refine aw_aload_n dX10_anyBy_20 rfl rfl ?_
    refine aw_getf dX10_anyBy_21 fl_X10_53 (by decide) ce_77 rfl (v := .ref 92) rfl ?_
    refine aw_iload_n dX10_anyBy_24 rfl rfl ?_
    obtain ⟨h9, h⟩ := h
    refine aw_iald dX10_anyBy_25 (by decide) ce_92 h9 ?_
    refine aw_iload_n dX10_anyBy_26 rfl rfl ?_
    refine aw_icmp_ne (tgt := 52) dX10_anyBy_27 (by decide) (fun z => ?_) (fun z => ?_)
    · replace h := h.1 z
      refine aw_iinc (y := 1) (L2 := [lR 77, lI x1, lI x2, lI (x3 + 1)]) dX10_anyBy_52 rfl (by decide) (by decide) rfl ?_
      refine aw_goto (tgt := 5) dX10_anyBy_55 (by decide) ?_
      exact h
    · replace h := h.2 z
      refine aw_aload_n dX10_anyBy_30 rfl rfl ?_
      refine aw_aload_n dX10_anyBy_31 rfl rfl ?_
      refine aw_getf dX10_anyBy_32 fl_X10_59 (by decide) ce_77 rfl (v := .ref 94) rfl ?_
      refine aw_iload_n dX10_anyBy_35 rfl rfl ?_
      obtain ⟨h9, h⟩ := h
      refine aw_iald dX10_anyBy_36 (by decide) ce_94 h9 ?_
      refine aw_aload_n dX10_anyBy_37 rfl rfl ?_
      refine aw_getf dX10_anyBy_38 fl_X10_62 (by decide) ce_77 rfl (v := .ref 95) rfl ?_
      refine aw_iload_n dX10_anyBy_41 rfl rfl ?_
      obtain ⟨h9, h⟩ := h
      refine aw_iald dX10_anyBy_42 (by decide) ce_95 h9 ?_
      refine aw_callV (mi := iX10_comesTo) (av := [.int (M 94 (ix x3)), .int (M 95 (ix x3))]) (st := []) dX10_anyBy_43 ml_X10_266 kX10_comesTo (by decide) ce_77 clX10 rfl rfl rfl (Nat.le_of_ble_eq_true rfl) (AM.mono h (fun r9 M1 h => ?_))
      obtain ⟨r1, rfl, h⟩ := h
      refine aw_iconst (v := 1) dX10_anyBy_46 (by decide) ?_
      refine aw_icmp_ne (tgt := 52) dX10_anyBy_47 (by decide) (fun z => ?_) (fun z => ?_)
      · replace h := h.1 z
        refine aw_iinc (y := 1) (L2 := [lR 77, lI x1, lI x2, lI (x3 + 1)]) dX10_anyBy_52 rfl (by decide) (by decide) rfl ?_
        refine aw_goto (tgt := 5) dX10_anyBy_55 (by decide) ?_
        exact h
      · replace h := h.2 z
        refine aw_iconst (v := 1) dX10_anyBy_50 (by decide) ?_
        exact aw_iret dX10_anyBy_51 rfl (nar_b (by decide)) h
abbrev AX10_feels (d : Nat) (Q : Option Int32 → Mem → Prop) (pc : Nat) (L : List (Option Value)) (st : List Value) (M : Mem) : Prop := AW none RX10 cX10_feels 3 none d Q pc L st M
theorem eX10_feels {d : Nat} {Q : Option Int32 → Mem → Prop} (M : Mem) (x1 : Int32) (h : AX10_feels d Q 0 [lR 77, lI x1, none] [] M) : AM d iX10_feels [.ref 77, .int x1] M Q := AM.of2 (by decide) rfl rfl h
theorem bX10_feels_0 {d : Nat} {Q : Option Int32 → Mem → Prop} (M : Mem) (x1 : Int32) (h : AX10_feels (d + 1) Q 3 [lR 77, lI x1, lI 6] [] M) : AX10_feels (d + 1) Q 0 [lR 77, lI x1, none] [] M := by
  refine aw_bipush (v := 6) dX10_feels_0 (by decide) ?_
  refine aw_istore_n (L2 := [lR 77, lI x1, lI 6]) dX10_feels_2 rfl (by decide) rfl ?_
  exact h
theorem bX10_feels_3 {d : Nat} {Q : Option Int32 → Mem → Prop} (M : Mem) (x1 x2 : Int32) (h : (12 ≤ x2 → AMi d iX10_tallOf [.ref 77, .int x1] M (fun r1 M1 => (vp_in x1 16) ∧ ((vp_in x1 16) ∧ ((vp_in x1 16) ∧ ((vp_in x1 16) ∧ (Q none (wr (wr (wr (wr (wr (wr (wr M1 97 0 r1) 97 1 (M1 79 (ix x1))) 97 2 (M1 80 (ix x1))) 97 3 (M1 81 (ix x1))) 97 4 (M1 78 (ix x1))) 97 5 x1) 97 10 (M1 77 2)))))))) ∧ (¬ 12 ≤ x2 → (vp_in x2 12) ∧ (AX10_feels (d + 1) Q 3 [lR 77, lI x1, lI (x2 + 1)] [] (wr M 97 (ix x2) 0)))) : AX10_feels (d + 1) Q 3 [lR 77, lI x1, lI x2] [] M := by
  refine aw_iload_n dX10_feels_3 rfl rfl ?_
  refine aw_bipush (v := 12) dX10_feels_4 (by decide) ?_
  refine aw_icmp_ge (tgt := 22) dX10_feels_6 (by decide) (fun z => ?_) (fun z => ?_)
  · replace h := h.1 z
    refine aw_aload_n dX10_feels_22 rfl rfl ?_
    refine aw_getf dX10_feels_23 fl_X10_68 (by decide) ce_77 rfl (v := .ref 97) rfl ?_
    refine aw_iconst (v := 0) dX10_feels_26 (by decide) ?_
    refine aw_aload_n dX10_feels_27 rfl rfl ?_
    refine aw_iload_n dX10_feels_28 rfl rfl ?_
    refine aw_callV (mi := iX10_tallOf) (av := [.int x1]) (st := [.int 0, .ref 97]) dX10_feels_29 ml_X10_159 kX10_tallOf (by decide) ce_77 clX10 rfl rfl rfl (Nat.le_of_ble_eq_true rfl) (AM.mono h (fun r9 M1 h => ?_))
    obtain ⟨r1, rfl, h⟩ := h
    refine aw_iast dX10_feels_32 (by decide) ce_97 (by unfold vp_in; decide) ?_
    refine aw_aload_n dX10_feels_33 rfl rfl ?_
    refine aw_getf dX10_feels_34 fl_X10_68 (by decide) ce_77 rfl (v := .ref 97) rfl ?_
    refine aw_iconst (v := 1) dX10_feels_37 (by decide) ?_
    refine aw_aload_n dX10_feels_38 rfl rfl ?_
    refine aw_getf dX10_feels_39 fl_X10_13 (by decide) ce_77 rfl (v := .ref 79) rfl ?_
    refine aw_iload_n dX10_feels_42 rfl rfl ?_
    obtain ⟨h9, h⟩ := h
    refine aw_iald dX10_feels_43 (by decide) ce_79 h9 ?_
    refine aw_iast dX10_feels_44 (by decide) ce_97 (by unfold vp_in; decide) ?_
    refine aw_aload_n dX10_feels_45 rfl rfl ?_
    refine aw_getf dX10_feels_46 fl_X10_68 (by decide) ce_77 rfl (v := .ref 97) rfl ?_
    refine aw_iconst (v := 2) dX10_feels_49 (by decide) ?_
    refine aw_aload_n dX10_feels_50 rfl rfl ?_
    refine aw_getf dX10_feels_51 fl_X10_16 (by decide) ce_77 rfl (v := .ref 80) rfl ?_
    refine aw_iload_n dX10_feels_54 rfl rfl ?_
    obtain ⟨h9, h⟩ := h
    refine aw_iald dX10_feels_55 (by decide) ce_80 h9 ?_
    refine aw_iast dX10_feels_56 (by decide) ce_97 (by unfold vp_in; decide) ?_
    refine aw_aload_n dX10_feels_57 rfl rfl ?_
    refine aw_getf dX10_feels_58 fl_X10_68 (by decide) ce_77 rfl (v := .ref 97) rfl ?_
    refine aw_iconst (v := 3) dX10_feels_61 (by decide) ?_
    refine aw_aload_n dX10_feels_62 rfl rfl ?_
    refine aw_getf dX10_feels_63 fl_X10_19 (by decide) ce_77 rfl (v := .ref 81) rfl ?_
    refine aw_iload_n dX10_feels_66 rfl rfl ?_
    obtain ⟨h9, h⟩ := h
    refine aw_iald dX10_feels_67 (by decide) ce_81 h9 ?_
    refine aw_iast dX10_feels_68 (by decide) ce_97 (by unfold vp_in; decide) ?_
    refine aw_aload_n dX10_feels_69 rfl rfl ?_
    refine aw_getf dX10_feels_70 fl_X10_68 (by decide) ce_77 rfl (v := .ref 97) rfl ?_
    refine aw_iconst (v := 4) dX10_feels_73 (by decide) ?_
    refine aw_aload_n dX10_feels_74 rfl rfl ?_
    refine aw_getf dX10_feels_75 fl_X10_7 (by decide) ce_77 rfl (v := .ref 78) rfl ?_
    refine aw_iload_n dX10_feels_78 rfl rfl ?_
    obtain ⟨h9, h⟩ := h
    refine aw_iald dX10_feels_79 (by decide) ce_78 h9 ?_
    refine aw_iast dX10_feels_80 (by decide) ce_97 (by unfold vp_in; decide) ?_
    refine aw_aload_n dX10_feels_81 rfl rfl ?_
    refine aw_getf dX10_feels_82 fl_X10_68 (by decide) ce_77 rfl (v := .ref 97) rfl ?_
    refine aw_iconst (v := 5) dX10_feels_85 (by decide) ?_
    refine aw_iload_n dX10_feels_86 rfl rfl ?_
    refine aw_iast dX10_feels_87 (by decide) ce_97 (by unfold vp_in; decide) ?_
    refine aw_aload_n dX10_feels_88 rfl rfl ?_
    refine aw_getf dX10_feels_89 fl_X10_68 (by decide) ce_77 rfl (v := .ref 97) rfl ?_
    refine aw_bipush (v := 10) dX10_feels_92 (by decide) ?_
    refine aw_aload_n dX10_feels_94 rfl rfl ?_
    refine aw_getf dX10_feels_95 fl_X10_270 (by decide) ce_77 rfl (v := .int (M1 77 2)) rfl ?_
    refine aw_iast dX10_feels_98 (by decide) ce_97 (by unfold vp_in; decide) ?_
    exact aw_vret dX10_feels_99 rfl h
  · replace h := h.2 z
    refine aw_aload_n dX10_feels_9 rfl rfl ?_
    refine aw_getf dX10_feels_10 fl_X10_68 (by decide) ce_77 rfl (v := .ref 97) rfl ?_
    refine aw_iload_n dX10_feels_13 rfl rfl ?_
    refine aw_iconst (v := 0) dX10_feels_14 (by decide) ?_
    obtain ⟨h9, h⟩ := h
    refine aw_iast dX10_feels_15 (by decide) ce_97 h9 ?_
    refine aw_iinc (y := 1) (L2 := [lR 77, lI x1, lI (x2 + 1)]) dX10_feels_16 rfl (by decide) (by decide) rfl ?_
    refine aw_goto (tgt := 3) dX10_feels_19 (by decide) ?_
    exact h
abbrev AX10_stepBy (d : Nat) (Q : Option Int32 → Mem → Prop) (pc : Nat) (L : List (Option Value)) (st : List Value) (M : Mem) : Prop := AW none RX10 cX10_stepBy 4 (some .int) d Q pc L st M
theorem eX10_stepBy {d : Nat} {Q : Option Int32 → Mem → Prop} (M : Mem) (x1 x2 x3 : Int32) (h : AX10_stepBy d Q 0 [lR 77, lI x1, lI x2, lI x3] [] M) : AM d iX10_stepBy [.ref 77, .int x1, .int x2, .int x3] M Q := AM.of2 (by decide) rfl rfl h
theorem bX10_stepBy_0 {d : Nat} {Q : Option Int32 → Mem → Prop} (M : Mem) (x1 x2 x3 : Int32) (h : (x2 = x3 → Q (some 1000000000) M) ∧ (¬ x2 = x3 → ((hasV (M 77 1) x2) = 0 → Q (some 1000000000) M) ∧ (¬ (hasV (M 77 1) x2) = 0 → ((hasV (M 77 1) x3) = 0 → Q (some 1000000000) M) ∧ (¬ (hasV (M 77 1) x3) = 0 → AMi d iX10_tallOf [.ref 77, .int x3] M (fun r1 M1 => AMi d iX10_tallOf [.ref 77, .int x2] M1 (fun r2 M2 => (r1 ≤ r2 → Q (some 1000000000) M2) ∧ (¬ r1 ≤ r2 → (vp_in x3 16) ∧ ((¬ (M2 78 (ix x3)) = 3 → AMv d iX10_feels [.ref 77, .int x3] M2 (fun M3 => AMi d iX10_tallOf [.ref 77, .int x2] M3 (fun r4 M4 => (vp_in x2 16) ∧ ((vp_in x2 16) ∧ ((vp_in x2 16) ∧ (AMi d iX10_anyBy [.ref 77, .int x1, .int 110] (wr (wr (wr (wr M4 97 6 r4) 97 7 (M4 79 (ix x2))) 97 8 (M4 80 (ix x2))) 97 9 (M4 78 (ix x2))) (fun r5 M5 => (r5 = 0 → (vp_in x3 16) ∧ ((¬ (M5 78 (ix x3)) = 1 → AX10_stepBy (d + 1) Q 144 [lR 77, lI x1, none, none] [.int 0] M5) ∧ ((M5 78 (ix x3)) = 1 → (vp_in x3 16) ∧ (AX10_stepBy (d + 1) Q 144 [lR 77, lI x1, none, none] [.int (M5 82 (ix x3))] M5)))) ∧ (¬ r5 = 0 → Q (some 1000000000) M5)))))))) ∧ ((M2 78 (ix x3)) = 3 → Q (some 1000000000) M2))))))))) : AX10_stepBy (d + 1) Q 0 [lR 77, lI x1, lI x2, lI x3] [] M := by
  refine aw_iload_n dX10_stepBy_0 rfl rfl ?_
  refine aw_iload_n dX10_stepBy_1 rfl rfl ?_
  refine aw_icmp_eq (tgt := 50) dX10_stepBy_2 (by decide) (fun z => ?_) (fun z => ?_)
  · replace h := h.1 z
    refine aw_ldcw dX10_stepBy_50 kc_X10_273 ?_
    exact aw_iret dX10_stepBy_53 rfl rfl h
  · replace h := h.2 z
    refine aw_aload_n dX10_stepBy_5 rfl rfl ?_
    refine aw_getf dX10_stepBy_6 fl_X10_145 (by decide) ce_77 rfl (v := .int (M 77 1)) rfl ?_
    refine aw_iload_n dX10_stepBy_9 rfl rfl ?_
    refine aw_callS (mi := iX10_has) (av := [.int (M 77 1), .int x2]) (st := []) dX10_stepBy_10 ml_X10_148 kX10_has rfl rfl (Nat.le_of_ble_eq_true rfl) (AM.mono (p_X10_has _ _) (fun r9 M9 e9 => ?_))
    obtain ⟨rfl, rfl⟩ := e9
    refine aw_if_eq (tgt := 50) dX10_stepBy_13 (by decide) (fun z => ?_) (fun z => ?_)
    · replace h := h.1 z
      refine aw_ldcw dX10_stepBy_50 kc_X10_273 ?_
      exact aw_iret dX10_stepBy_53 rfl rfl h
    · replace h := h.2 z
      refine aw_aload_n dX10_stepBy_16 rfl rfl ?_
      refine aw_getf dX10_stepBy_17 fl_X10_145 (by decide) ce_77 rfl (v := .int (M 77 1)) rfl ?_
      refine aw_iload_n dX10_stepBy_20 rfl rfl ?_
      refine aw_callS (mi := iX10_has) (av := [.int (M 77 1), .int x3]) (st := []) dX10_stepBy_21 ml_X10_148 kX10_has rfl rfl (Nat.le_of_ble_eq_true rfl) (AM.mono (p_X10_has _ _) (fun r9 M9 e9 => ?_))
      obtain ⟨rfl, rfl⟩ := e9
      refine aw_if_eq (tgt := 50) dX10_stepBy_24 (by decide) (fun z => ?_) (fun z => ?_)
      · replace h := h.1 z
        refine aw_ldcw dX10_stepBy_50 kc_X10_273 ?_
        exact aw_iret dX10_stepBy_53 rfl rfl h
      · replace h := h.2 z
        refine aw_aload_n dX10_stepBy_27 rfl rfl ?_
        refine aw_iload_n dX10_stepBy_28 rfl rfl ?_
        refine aw_callV (mi := iX10_tallOf) (av := [.int x3]) (st := []) dX10_stepBy_29 ml_X10_159 kX10_tallOf (by decide) ce_77 clX10 rfl rfl rfl (Nat.le_of_ble_eq_true rfl) (AM.mono h (fun r9 M1 h => ?_))
        obtain ⟨r1, rfl, h⟩ := h
        refine aw_aload_n dX10_stepBy_32 rfl rfl ?_
        refine aw_iload_n dX10_stepBy_33 rfl rfl ?_
        refine aw_callV (mi := iX10_tallOf) (av := [.int x2]) (st := [.int r1]) dX10_stepBy_34 ml_X10_159 kX10_tallOf (by decide) ce_77 clX10 rfl rfl rfl (Nat.le_of_ble_eq_true rfl) (AM.mono h (fun r9 M2 h => ?_))
        obtain ⟨r2, rfl, h⟩ := h
        refine aw_icmp_le (tgt := 50) dX10_stepBy_37 (by decide) (fun z => ?_) (fun z => ?_)
        · replace h := h.1 z
          refine aw_ldcw dX10_stepBy_50 kc_X10_273 ?_
          exact aw_iret dX10_stepBy_53 rfl rfl h
        · replace h := h.2 z
          refine aw_aload_n dX10_stepBy_40 rfl rfl ?_
          refine aw_getf dX10_stepBy_41 fl_X10_7 (by decide) ce_77 rfl (v := .ref 78) rfl ?_
          refine aw_iload_n dX10_stepBy_44 rfl rfl ?_
          obtain ⟨h9, h⟩ := h
          refine aw_iald dX10_stepBy_45 (by decide) ce_78 h9 ?_
          refine aw_iconst (v := 3) dX10_stepBy_46 (by decide) ?_
          refine aw_icmp_ne (tgt := 54) dX10_stepBy_47 (by decide) (fun z => ?_) (fun z => ?_)
          · replace h := h.1 z
            refine aw_aload_n dX10_stepBy_54 rfl rfl ?_
            refine aw_iload_n dX10_stepBy_55 rfl rfl ?_
            refine aw_callV (mi := iX10_feels) (av := [.int x3]) (st := []) dX10_stepBy_56 ml_X10_274 kX10_feels (by decide) ce_77 clX10 rfl rfl rfl (Nat.le_of_ble_eq_true rfl) (AM.mono h (fun r9 M3 h => ?_))
            obtain ⟨rfl, h⟩ := h
            refine aw_aload_n dX10_stepBy_59 rfl rfl ?_
            refine aw_getf dX10_stepBy_60 fl_X10_68 (by decide) ce_77 rfl (v := .ref 97) rfl ?_
            refine aw_bipush (v := 6) dX10_stepBy_63 (by decide) ?_
            refine aw_aload_n dX10_stepBy_65 rfl rfl ?_
            refine aw_iload_n dX10_stepBy_66 rfl rfl ?_
            refine aw_callV (mi := iX10_tallOf) (av := [.int x2]) (st := [.int 6, .ref 97]) dX10_stepBy_67 ml_X10_159 kX10_tallOf (by decide) ce_77 clX10 rfl rfl rfl (Nat.le_of_ble_eq_true rfl) (AM.mono h (fun r9 M4 h => ?_))
            obtain ⟨r4, rfl, h⟩ := h
            refine aw_iast dX10_stepBy_70 (by decide) ce_97 (by unfold vp_in; decide) ?_
            refine aw_aload_n dX10_stepBy_71 rfl rfl ?_
            refine aw_getf dX10_stepBy_72 fl_X10_68 (by decide) ce_77 rfl (v := .ref 97) rfl ?_
            refine aw_bipush (v := 7) dX10_stepBy_75 (by decide) ?_
            refine aw_aload_n dX10_stepBy_77 rfl rfl ?_
            refine aw_getf dX10_stepBy_78 fl_X10_13 (by decide) ce_77 rfl (v := .ref 79) rfl ?_
            refine aw_iload_n dX10_stepBy_81 rfl rfl ?_
            obtain ⟨h9, h⟩ := h
            refine aw_iald dX10_stepBy_82 (by decide) ce_79 h9 ?_
            refine aw_iast dX10_stepBy_83 (by decide) ce_97 (by unfold vp_in; decide) ?_
            refine aw_aload_n dX10_stepBy_84 rfl rfl ?_
            refine aw_getf dX10_stepBy_85 fl_X10_68 (by decide) ce_77 rfl (v := .ref 97) rfl ?_
            refine aw_bipush (v := 8) dX10_stepBy_88 (by decide) ?_
            refine aw_aload_n dX10_stepBy_90 rfl rfl ?_
            refine aw_getf dX10_stepBy_91 fl_X10_16 (by decide) ce_77 rfl (v := .ref 80) rfl ?_
            refine aw_iload_n dX10_stepBy_94 rfl rfl ?_
            obtain ⟨h9, h⟩ := h
            refine aw_iald dX10_stepBy_95 (by decide) ce_80 h9 ?_
            refine aw_iast dX10_stepBy_96 (by decide) ce_97 (by unfold vp_in; decide) ?_
            refine aw_aload_n dX10_stepBy_97 rfl rfl ?_
            refine aw_getf dX10_stepBy_98 fl_X10_68 (by decide) ce_77 rfl (v := .ref 97) rfl ?_
            refine aw_bipush (v := 9) dX10_stepBy_101 (by decide) ?_
            refine aw_aload_n dX10_stepBy_103 rfl rfl ?_
            refine aw_getf dX10_stepBy_104 fl_X10_7 (by decide) ce_77 rfl (v := .ref 78) rfl ?_
            refine aw_iload_n dX10_stepBy_107 rfl rfl ?_
            obtain ⟨h9, h⟩ := h
            refine aw_iald dX10_stepBy_108 (by decide) ce_78 h9 ?_
            refine aw_iast dX10_stepBy_109 (by decide) ce_97 (by unfold vp_in; decide) ?_
            refine aw_aload_n dX10_stepBy_110 rfl rfl ?_
            refine aw_iload_n dX10_stepBy_111 rfl rfl ?_
            refine aw_bipush (v := 110) dX10_stepBy_112 (by decide) ?_
            refine aw_callV (mi := iX10_anyBy) (av := [.int x1, .int 110]) (st := []) dX10_stepBy_114 ml_X10_277 kX10_anyBy (by decide) ce_77 clX10 rfl rfl rfl (Nat.le_of_ble_eq_true rfl) (AM.mono h (fun r9 M5 h => ?_))
            obtain ⟨r5, rfl, h⟩ := h
            refine aw_if_eq (tgt := 124) dX10_stepBy_117 (by decide) (fun z => ?_) (fun z => ?_)
            · replace h := h.1 z
              refine aw_aload_n dX10_stepBy_124 rfl rfl ?_
              refine aw_getf dX10_stepBy_125 fl_X10_7 (by decide) ce_77 rfl (v := .ref 78) rfl ?_
              refine aw_iload_n dX10_stepBy_128 rfl rfl ?_
              obtain ⟨h9, h⟩ := h
              refine aw_iald dX10_stepBy_129 (by decide) ce_78 h9 ?_
              refine aw_iconst (v := 1) dX10_stepBy_130 (by decide) ?_
              refine aw_icmp_ne (tgt := 143) dX10_stepBy_131 (by decide) (fun z => ?_) (fun z => ?_)
              · replace h := h.1 z
                refine aw_iconst (v := 0) dX10_stepBy_143 (by decide) ?_
                exact aw_less (less_k (less_k (less_d (less_d less_nil)))) h
              · replace h := h.2 z
                refine aw_aload_n dX10_stepBy_134 rfl rfl ?_
                refine aw_getf dX10_stepBy_135 fl_X10_22 (by decide) ce_77 rfl (v := .ref 82) rfl ?_
                refine aw_iload_n dX10_stepBy_138 rfl rfl ?_
                obtain ⟨h9, h⟩ := h
                refine aw_iald dX10_stepBy_139 (by decide) ce_82 h9 ?_
                refine aw_goto (tgt := 144) dX10_stepBy_140 (by decide) ?_
                exact aw_less (less_k (less_k (less_d (less_d less_nil)))) h
            · replace h := h.2 z
              refine aw_ldcw dX10_stepBy_120 kc_X10_273 ?_
              exact aw_iret dX10_stepBy_123 rfl rfl h
          · replace h := h.2 z
            refine aw_ldcw dX10_stepBy_50 kc_X10_273 ?_
            exact aw_iret dX10_stepBy_53 rfl rfl h
theorem bX10_stepBy_144 {d : Nat} {Q : Option Int32 → Mem → Prop} (M : Mem) (x1 s0 : Int32) (h : AMi d iX10_byLaw [.ref 77, .int x1, .int 112, .int 999] M (fun r1 M1 => Q (some (s0 + r1)) M1)) : AX10_stepBy (d + 1) Q 144 [lR 77, lI x1, none, none] [.int s0] M := by
  refine aw_aload_n dX10_stepBy_144 rfl rfl ?_
  refine aw_iload_n dX10_stepBy_145 rfl rfl ?_
  refine aw_bipush (v := 112) dX10_stepBy_146 (by decide) ?_
  refine aw_sipush (v := 999) dX10_stepBy_148 (by decide) ?_
  refine aw_callV (mi := iX10_byLaw) (av := [.int x1, .int 112, .int 999]) (st := [.int s0]) dX10_stepBy_151 ml_X10_280 kX10_byLaw (by decide) ce_77 clX10 rfl rfl rfl (Nat.le_of_ble_eq_true rfl) (AM.mono h (fun r9 M1 h => ?_))
  obtain ⟨r1, rfl, h⟩ := h
  refine aw_iadd dX10_stepBy_154 ?_
  exact aw_iret dX10_stepBy_155 rfl rfl h
abbrev AX10_laysSteps (d : Nat) (Q : Option Int32 → Mem → Prop) (pc : Nat) (L : List (Option Value)) (st : List Value) (M : Mem) : Prop := AW none RX10 cX10_laysSteps 4 none d Q pc L st M
theorem eX10_laysSteps {d : Nat} {Q : Option Int32 → Mem → Prop} (M : Mem) (x1 : Int32) (h : AX10_laysSteps d Q 0 [lR 77, lI x1, none, none] [] M) : AM d iX10_laysSteps [.ref 77, .int x1] M Q := AM.of2 (by decide) rfl rfl h
theorem bX10_laysSteps_0 {d : Nat} {Q : Option Int32 → Mem → Prop} (M : Mem) (x1 : Int32) (h : AX10_laysSteps (d + 1) Q 2 [lR 77, lI x1, lI 0, none] [] M) : AX10_laysSteps (d + 1) Q 0 [lR 77, lI x1, none, none] [] M := by
  refine aw_iconst (v := 0) dX10_laysSteps_0 (by decide) ?_
  refine aw_istore_n (L2 := [lR 77, lI x1, lI 0, none]) dX10_laysSteps_1 rfl (by decide) rfl ?_
  exact h
theorem bX10_laysSteps_2 {d : Nat} {Q : Option Int32 → Mem → Prop} (M : Mem) (x1 x2 : Int32) (h : ((M 77 0) ≤ x2 → Q none M) ∧ (¬ (M 77 0) ≤ x2 → AX10_laysSteps (d + 1) Q 12 [lR 77, lI x1, lI x2, lI 0] [] M)) : AX10_laysSteps (d + 1) Q 2 [lR 77, lI x1, lI x2, none] [] M := by
  refine aw_iload_n dX10_laysSteps_2 rfl rfl ?_
  refine aw_aload_n dX10_laysSteps_3 rfl rfl ?_
  refine aw_getf dX10_laysSteps_4 fl_X10_138 (by decide) ce_77 rfl (v := .int (M 77 0)) rfl ?_
  refine aw_icmp_ge (tgt := 50) dX10_laysSteps_7 (by decide) (fun z => ?_) (fun z => ?_)
  · replace h := h.1 z
    exact aw_vret dX10_laysSteps_50 rfl h
  · replace h := h.2 z
    refine aw_iconst (v := 0) dX10_laysSteps_10 (by decide) ?_
    refine aw_istore_n (L2 := [lR 77, lI x1, lI x2, lI 0]) dX10_laysSteps_11 rfl (by decide) rfl ?_
    exact h
theorem bX10_laysSteps_12 {d : Nat} {Q : Option Int32 → Mem → Prop} (M : Mem) (x1 x2 x3 : Int32) (h : ((M 77 0) ≤ x3 → AX10_laysSteps (d + 1) Q 2 [lR 77, lI x1, lI (x2 + 1), none] [] M) ∧ (¬ (M 77 0) ≤ x3 → AMi d iX10_stepBy [.ref 77, .int x1, .int x2, .int x3] M (fun r1 M1 => (vp_in ((16 * x2) + x3) 256) ∧ (AX10_laysSteps (d + 1) Q 12 [lR 77, lI x1, lI x2, lI (x3 + 1)] [] (wr M1 98 (ix ((16 * x2) + x3)) r1))))) : AX10_laysSteps (d + 1) Q 12 [lR 77, lI x1, lI x2, lI x3] [] M := by
  refine aw_iload_n dX10_laysSteps_12 rfl rfl ?_
  refine aw_aload_n dX10_laysSteps_13 rfl rfl ?_
  refine aw_getf dX10_laysSteps_14 fl_X10_138 (by decide) ce_77 rfl (v := .int (M 77 0)) rfl ?_
  refine aw_icmp_ge (tgt := 44) dX10_laysSteps_17 (by decide) (fun z => ?_) (fun z => ?_)
  · replace h := h.1 z
    refine aw_iinc (y := 1) (L2 := [lR 77, lI x1, lI (x2 + 1), lI x3]) dX10_laysSteps_44 rfl (by decide) (by decide) rfl ?_
    refine aw_goto (tgt := 2) dX10_laysSteps_47 (by decide) ?_
    exact aw_less (less_k (less_k (less_k (less_d less_nil)))) h
  · replace h := h.2 z
    refine aw_aload_n dX10_laysSteps_20 rfl rfl ?_
    refine aw_getf dX10_laysSteps_21 fl_X10_71 (by decide) ce_77 rfl (v := .ref 98) rfl ?_
    refine aw_bipush (v := 16) dX10_laysSteps_24 (by decide) ?_
    refine aw_iload_n dX10_laysSteps_26 rfl rfl ?_
    refine aw_imul dX10_laysSteps_27 ?_
    refine aw_iload_n dX10_laysSteps_28 rfl rfl ?_
    refine aw_iadd dX10_laysSteps_29 ?_
    refine aw_aload_n dX10_laysSteps_30 rfl rfl ?_
    refine aw_iload_n dX10_laysSteps_31 rfl rfl ?_
    refine aw_iload_n dX10_laysSteps_32 rfl rfl ?_
    refine aw_iload_n dX10_laysSteps_33 rfl rfl ?_
    refine aw_callV (mi := iX10_stepBy) (av := [.int x1, .int x2, .int x3]) (st := [.int ((16 * x2) + x3), .ref 98]) dX10_laysSteps_34 ml_X10_283 kX10_stepBy (by decide) ce_77 clX10 rfl rfl rfl (Nat.le_of_ble_eq_true rfl) (AM.mono h (fun r9 M1 h => ?_))
    obtain ⟨r1, rfl, h⟩ := h
    obtain ⟨h9, h⟩ := h
    refine aw_iast dX10_laysSteps_37 (by decide) ce_98 h9 ?_
    refine aw_iinc (y := 1) (L2 := [lR 77, lI x1, lI x2, lI (x3 + 1)]) dX10_laysSteps_38 rfl (by decide) (by decide) rfl ?_
    refine aw_goto (tgt := 12) dX10_laysSteps_41 (by decide) ?_
    exact h
abbrev AX10_step (d : Nat) (Q : Option Int32 → Mem → Prop) (pc : Nat) (L : List (Option Value)) (st : List Value) (M : Mem) : Prop := AW none RX10 cX10_step 4 (some .int) d Q pc L st M
theorem eX10_step {d : Nat} {Q : Option Int32 → Mem → Prop} (M : Mem) (x1 x2 : Int32) (h : AX10_step d Q 0 [lR 77, lI x1, lI x2, none] [] M) : AM d iX10_step [.ref 77, .int x1, .int x2] M Q := AM.of2 (by decide) rfl rfl h
theorem bX10_step_0 {d : Nat} {Q : Option Int32 → Mem → Prop} (M : Mem) (x1 x2 : Int32) (h : ((isPV (M 77 0) x1) = 0 → Q (some (-1)) M) ∧ (¬ (isPV (M 77 0) x1) = 0 → ((isPV (M 77 0) x2) = 0 → Q (some (-1)) M) ∧ (¬ (isPV (M 77 0) x2) = 0 → (¬ x1 = x2 → AMi d iX10_stepBy [.ref 77, .int 0, .int x1, .int x2] M (fun r1 M1 => (¬ r1 = 1000000000 → Q (some r1) M1) ∧ (r1 = 1000000000 → Q (some (-2)) M1))) ∧ (x1 = x2 → Q (some (-1)) M)))) : AX10_step (d + 1) Q 0 [lR 77, lI x1, lI x2, none] [] M := by
  refine aw_aload_n dX10_step_0 rfl rfl ?_
  refine aw_iload_n dX10_step_1 rfl rfl ?_
  refine aw_callV (mi := iX10_isPerson) (av := [.int x1]) (st := []) dX10_step_2 ml_X10_141 kX10_isPerson (by decide) ce_77 clX10 rfl rfl rfl (Nat.le_of_ble_eq_true rfl) (AM.mono (p_X10_isPerson _) (fun r9 M9 e9 => ?_))
  obtain ⟨rfl, rfl⟩ := e9
  refine aw_if_eq (tgt := 21) dX10_step_5 (by decide) (fun z => ?_) (fun z => ?_)
  · replace h := h.1 z
    refine aw_iconst (v := (-1)) dX10_step_21 (by decide) ?_
    exact aw_iret dX10_step_22 rfl rfl h
  · replace h := h.2 z
    refine aw_aload_n dX10_step_8 rfl rfl ?_
    refine aw_iload_n dX10_step_9 rfl rfl ?_
    refine aw_callV (mi := iX10_isPerson) (av := [.int x2]) (st := []) dX10_step_10 ml_X10_141 kX10_isPerson (by decide) ce_77 clX10 rfl rfl rfl (Nat.le_of_ble_eq_true rfl) (AM.mono (p_X10_isPerson _) (fun r9 M9 e9 => ?_))
    obtain ⟨rfl, rfl⟩ := e9
    refine aw_if_eq (tgt := 21) dX10_step_13 (by decide) (fun z => ?_) (fun z => ?_)
    · replace h := h.1 z
      refine aw_iconst (v := (-1)) dX10_step_21 (by decide) ?_
      exact aw_iret dX10_step_22 rfl rfl h
    · replace h := h.2 z
      refine aw_iload_n dX10_step_16 rfl rfl ?_
      refine aw_iload_n dX10_step_17 rfl rfl ?_
      refine aw_icmp_ne (tgt := 23) dX10_step_18 (by decide) (fun z => ?_) (fun z => ?_)
      · replace h := h.1 z
        refine aw_aload_n dX10_step_23 rfl rfl ?_
        refine aw_iconst (v := 0) dX10_step_24 (by decide) ?_
        refine aw_iload_n dX10_step_25 rfl rfl ?_
        refine aw_iload_n dX10_step_26 rfl rfl ?_
        refine aw_callV (mi := iX10_stepBy) (av := [.int 0, .int x1, .int x2]) (st := []) dX10_step_27 ml_X10_283 kX10_stepBy (by decide) ce_77 clX10 rfl rfl rfl (Nat.le_of_ble_eq_true rfl) (AM.mono h (fun r9 M1 h => ?_))
        obtain ⟨r1, rfl, h⟩ := h
        refine aw_istore_n (L2 := [lR 77, lI x1, lI x2, lI r1]) dX10_step_30 rfl (by decide) rfl ?_
        refine aw_iload_n dX10_step_31 rfl rfl ?_
        refine aw_ldcw dX10_step_32 kc_X10_273 ?_
        refine aw_icmp_ne (tgt := 43) dX10_step_35 (by decide) (fun z => ?_) (fun z => ?_)
        · replace h := h.1 z
          refine aw_iload_n dX10_step_43 rfl rfl ?_
          exact aw_iret dX10_step_44 rfl rfl h
        · replace h := h.2 z
          refine aw_bipush (v := (-2)) dX10_step_38 (by decide) ?_
          refine aw_goto (tgt := 44) dX10_step_40 (by decide) ?_
          exact aw_iret dX10_step_44 rfl rfl h
      · replace h := h.2 z
        refine aw_iconst (v := (-1)) dX10_step_21 (by decide) ?_
        exact aw_iret dX10_step_22 rfl rfl h
abbrev AX10_oath (d : Nat) (Q : Option Int32 → Mem → Prop) (pc : Nat) (L : List (Option Value)) (st : List Value) (M : Mem) : Prop := AW none RX10 cX10_oath 3 (some .int) d Q pc L st M
theorem eX10_oath {d : Nat} {Q : Option Int32 → Mem → Prop} (M : Mem) (x1 x2 : Int32) (h : AX10_oath d Q 0 [lR 77, lI x1, lI x2] [] M) : AM d iX10_oath [.ref 77, .int x1, .int x2] M Q := AM.of2 (by decide) rfl rfl h
theorem bX10_oath_0 {d : Nat} {Q : Option Int32 → Mem → Prop} (M : Mem) (x1 x2 : Int32) (h : ((livV (M 77 0) (M 77 1) x1) = 0 → Q (some (-1)) M) ∧ (¬ (livV (M 77 0) (M 77 1) x1) = 0 → ((inV x2 0 3) = 0 → Q (some (-1)) M) ∧ (¬ (inV x2 0 3) = 0 → (¬ (M 77 34) = 12 → (vp_in (M 77 34) 12) ∧ ((vp_in (M 77 34) 12) ∧ ((vp_in (M 77 34) 12) ∧ (Q (some ((((M 77 34) + 1)) - 1)) (wr (wr (wr (wr M 99 (ix (M 77 34)) x1) 100 (ix (M 77 34)) x2) 101 (ix (M 77 34)) ((1 : Int32) <<< (x1 &&& 31))) 77 34 ((M 77 34) + 1)))))) ∧ ((M 77 34) = 12 → Q (some (-1)) M)))) : AX10_oath (d + 2) Q 0 [lR 77, lI x1, lI x2] [] M := by
  refine aw_aload_n dX10_oath_0 rfl rfl ?_
  refine aw_iload_n dX10_oath_1 rfl rfl ?_
  refine aw_callV (mi := iX10_lives) (av := [.int x1]) (st := []) dX10_oath_2 ml_X10_156 kX10_lives (by decide) ce_77 clX10 rfl rfl rfl (Nat.le_of_ble_eq_true rfl) (AM.mono (p_X10_lives _) (fun r9 M9 e9 => ?_))
  obtain ⟨rfl, rfl⟩ := e9
  refine aw_if_eq (tgt := 26) dX10_oath_5 (by decide) (fun z => ?_) (fun z => ?_)
  · replace h := h.1 z
    refine aw_iconst (v := (-1)) dX10_oath_26 (by decide) ?_
    exact aw_iret dX10_oath_27 rfl rfl h
  · replace h := h.2 z
    refine aw_iload_n dX10_oath_8 rfl rfl ?_
    refine aw_iconst (v := 0) dX10_oath_9 (by decide) ?_
    refine aw_iconst (v := 3) dX10_oath_10 (by decide) ?_
    refine aw_callS (mi := iX10_in) (av := [.int x2, .int 0, .int 3]) (st := []) dX10_oath_11 ml_X10_152 kX10_in rfl rfl (Nat.le_of_ble_eq_true rfl) (AM.mono (p_X10_in _ _ _) (fun r9 M9 e9 => ?_))
    obtain ⟨rfl, rfl⟩ := e9
    refine aw_if_eq (tgt := 26) dX10_oath_14 (by decide) (fun z => ?_) (fun z => ?_)
    · replace h := h.1 z
      refine aw_iconst (v := (-1)) dX10_oath_26 (by decide) ?_
      exact aw_iret dX10_oath_27 rfl rfl h
    · replace h := h.2 z
      refine aw_aload_n dX10_oath_17 rfl rfl ?_
      refine aw_getf dX10_oath_18 fl_X10_286 (by decide) ce_77 rfl (v := .int (M 77 34)) rfl ?_
      refine aw_bipush (v := 12) dX10_oath_21 (by decide) ?_
      refine aw_icmp_ne (tgt := 28) dX10_oath_23 (by decide) (fun z => ?_) (fun z => ?_)
      · replace h := h.1 z
        refine aw_aload_n dX10_oath_28 rfl rfl ?_
        refine aw_getf dX10_oath_29 fl_X10_74 (by decide) ce_77 rfl (v := .ref 99) rfl ?_
        refine aw_aload_n dX10_oath_32 rfl rfl ?_
        refine aw_getf dX10_oath_33 fl_X10_286 (by decide) ce_77 rfl (v := .int (M 77 34)) rfl ?_
        refine aw_iload_n dX10_oath_36 rfl rfl ?_
        obtain ⟨h9, h⟩ := h
        refine aw_iast dX10_oath_37 (by decide) ce_99 h9 ?_
        refine aw_aload_n dX10_oath_38 rfl rfl ?_
        refine aw_getf dX10_oath_39 fl_X10_77 (by decide) ce_77 rfl (v := .ref 100) rfl ?_
        refine aw_aload_n dX10_oath_42 rfl rfl ?_
        refine aw_getf dX10_oath_43 fl_X10_286 (by decide) ce_77 rfl (v := .int (M 77 34)) rfl ?_
        refine aw_iload_n dX10_oath_46 rfl rfl ?_
        obtain ⟨h9, h⟩ := h
        refine aw_iast dX10_oath_47 (by decide) ce_100 h9 ?_
        refine aw_aload_n dX10_oath_48 rfl rfl ?_
        refine aw_getf dX10_oath_49 fl_X10_80 (by decide) ce_77 rfl (v := .ref 101) rfl ?_
        refine aw_aload_n dX10_oath_52 rfl rfl ?_
        refine aw_getf dX10_oath_53 fl_X10_286 (by decide) ce_77 rfl (v := .int (M 77 34)) rfl ?_
        refine aw_iconst (v := 1) dX10_oath_56 (by decide) ?_
        refine aw_iload_n dX10_oath_57 rfl rfl ?_
        refine aw_ishl dX10_oath_58 ?_
        obtain ⟨h9, h⟩ := h
        refine aw_iast dX10_oath_59 (by decide) ce_101 h9 ?_
        refine aw_aload_n dX10_oath_60 rfl rfl ?_
        refine aw_aload_n dX10_oath_61 rfl rfl ?_
        refine aw_getf dX10_oath_62 fl_X10_286 (by decide) ce_77 rfl (v := .int (M 77 34)) rfl ?_
        refine aw_iconst (v := 1) dX10_oath_65 (by decide) ?_
        refine aw_iadd dX10_oath_66 ?_
        refine aw_putf dX10_oath_67 fp_X10_286 (by decide) ce_77 rfl rfl rfl ?_
        refine aw_aload_n dX10_oath_70 rfl rfl ?_
        refine aw_getf dX10_oath_71 fl_X10_286 (by decide) ce_77 rfl (v := .int (((M 77 34) + 1))) rfl ?_
        refine aw_iconst (v := 1) dX10_oath_74 (by decide) ?_
        refine aw_isub dX10_oath_75 ?_
        exact aw_iret dX10_oath_76 rfl rfl h
      · replace h := h.2 z
        refine aw_iconst (v := (-1)) dX10_oath_26 (by decide) ?_
        exact aw_iret dX10_oath_27 rfl rfl h
abbrev AX10_leastBy (d : Nat) (Q : Option Int32 → Mem → Prop) (pc : Nat) (L : List (Option Value)) (st : List Value) (M : Mem) : Prop := AW none RX10 cX10_leastBy 5 (some .int) d Q pc L st M
theorem eX10_leastBy {d : Nat} {Q : Option Int32 → Mem → Prop} (M : Mem) (x1 x2 : Int32) (h : AX10_leastBy d Q 0 [lR 77, lI x1, lI x2, none, none] [] M) : AM d iX10_leastBy [.ref 77, .int x1, .int x2] M Q := AM.of2 (by decide) rfl rfl h
theorem bX10_leastBy_0 {d : Nat} {Q : Option Int32 → Mem → Prop} (M : Mem) (x1 x2 : Int32) (h : AX10_leastBy (d + 1) Q 7 [lR 77, lI x1, lI x2, lI 1000000000, lI 0] [] M) : AX10_leastBy (d + 1) Q 0 [lR 77, lI x1, lI x2, none, none] [] M := by
  refine aw_ldcw dX10_leastBy_0 kc_X10_273 ?_
  refine aw_istore_n (L2 := [lR 77, lI x1, lI x2, lI 1000000000, none]) dX10_leastBy_3 rfl (by decide) rfl ?_
  refine aw_iconst (v := 0) dX10_leastBy_4 (by decide) ?_
  refine aw_istore (L2 := [lR 77, lI x1, lI x2, lI 1000000000, lI 0]) dX10_leastBy_5 (by decide) rfl ?_
  exact h
theorem bX10_leastBy_7 {d : Nat} {Q : Option Int32 → Mem → Prop} (M : Mem) (x1 x2 x3 x4 : Int32) (h : ((M 77 0) ≤ x4 → Q (some x3) M) ∧ (¬ (M 77 0) ≤ x4 → ((hasV x1 x4) = 0 → AX10_leastBy (d + 1) Q 7 [lR 77, lI x1, lI x2, lI x3, lI (x4 + 1)] [] M) ∧ (¬ (hasV x1 x4) = 0 → (vp_in ((16 * x4) + x2) 256) ∧ (AX10_leastBy (d + 1) Q 7 [lR 77, lI x1, lI x2, lI (minV x3 (M 98 (ix ((16 * x4) + x2)))), lI (x4 + 1)] [] M)))) : AX10_leastBy (d + 1) Q 7 [lR 77, lI x1, lI x2, lI x3, lI x4] [] M := by
  refine aw_iload dX10_leastBy_7 rfl ?_
  refine aw_aload_n dX10_leastBy_9 rfl rfl ?_
  refine aw_getf dX10_leastBy_10 fl_X10_138 (by decide) ce_77 rfl (v := .int (M 77 0)) rfl ?_
  refine aw_icmp_ge (tgt := 48) dX10_leastBy_13 (by decide) (fun z => ?_) (fun z => ?_)
  · replace h := h.1 z
    refine aw_iload_n dX10_leastBy_48 rfl rfl ?_
    exact aw_iret dX10_leastBy_49 rfl rfl h
  · replace h := h.2 z
    refine aw_iload_n dX10_leastBy_16 rfl rfl ?_
    refine aw_iload dX10_leastBy_17 rfl ?_
    refine aw_callS (mi := iX10_has) (av := [.int x1, .int x4]) (st := []) dX10_leastBy_19 ml_X10_148 kX10_has rfl rfl (Nat.le_of_ble_eq_true rfl) (AM.mono (p_X10_has _ _) (fun r9 M9 e9 => ?_))
    obtain ⟨rfl, rfl⟩ := e9
    refine aw_if_eq (tgt := 42) dX10_leastBy_22 (by decide) (fun z => ?_) (fun z => ?_)
    · replace h := h.1 z
      refine aw_iinc (y := 1) (L2 := [lR 77, lI x1, lI x2, lI x3, lI (x4 + 1)]) dX10_leastBy_42 rfl (by decide) (by decide) rfl ?_
      refine aw_goto (tgt := 7) dX10_leastBy_45 (by decide) ?_
      exact h
    · replace h := h.2 z
      refine aw_iload_n dX10_leastBy_25 rfl rfl ?_
      refine aw_aload_n dX10_leastBy_26 rfl rfl ?_
      refine aw_getf dX10_leastBy_27 fl_X10_71 (by decide) ce_77 rfl (v := .ref 98) rfl ?_
      refine aw_bipush (v := 16) dX10_leastBy_30 (by decide) ?_
      refine aw_iload dX10_leastBy_32 rfl ?_
      refine aw_imul dX10_leastBy_34 ?_
      refine aw_iload_n dX10_leastBy_35 rfl rfl ?_
      refine aw_iadd dX10_leastBy_36 ?_
      obtain ⟨h9, h⟩ := h
      refine aw_iald dX10_leastBy_37 (by decide) ce_98 h9 ?_
      refine aw_callS (mi := iX10_min) (av := [.int x3, .int (M 98 (ix ((16 * x4) + x2)))]) (st := []) dX10_leastBy_38 ml_X10_289 kX10_min rfl rfl (Nat.le_of_ble_eq_true rfl) (AM.mono (p_X10_min _ _) (fun r9 M9 e9 => ?_))
      obtain ⟨rfl, rfl⟩ := e9
      refine aw_istore_n (L2 := [lR 77, lI x1, lI x2, lI (minV x3 (M 98 (ix ((16 * x4) + x2)))), lI x4]) dX10_leastBy_41 rfl (by decide) rfl ?_
      refine aw_iinc (y := 1) (L2 := [lR 77, lI x1, lI x2, lI (minV x3 (M 98 (ix ((16 * x4) + x2)))), lI (x4 + 1)]) dX10_leastBy_42 rfl (by decide) (by decide) rfl ?_
      refine aw_goto (tgt := 7) dX10_leastBy_45 (by decide) ?_
      exact h
abbrev AX10_swear (d : Nat) (Q : Option Int32 → Mem → Prop) (pc : Nat) (L : List (Option Value)) (st : List Value) (M : Mem) : Prop := AW none RX10 cX10_swear 4 (some .int) d Q pc L st M
theorem eX10_swear {d : Nat} {Q : Option Int32 → Mem → Prop} (M : Mem) (x1 x2 : Int32) (h : AX10_swear d Q 0 [lR 77, lI x1, lI x2, none] [] M) : AM d iX10_swear [.ref 77, .int x1, .int x2] M Q := AM.of2 (by decide) rfl rfl h
theorem bX10_swear_0 {d : Nat} {Q : Option Int32 → Mem → Prop} (M : Mem) (x1 x2 : Int32) (h : ((isPV (M 77 34) x1) = 0 → Q (some (-1)) M) ∧ (¬ (isPV (M 77 34) x1) = 0 → (¬ (isPV (M 77 0) x2) = 0 → (vp_in x1 12) ∧ (((hasV (M 101 (ix x1)) x2) = 0 → AMv d iX10_laysSteps [.ref 77, .int 0] M (fun M1 => (vp_in x1 12) ∧ (AMi d iX10_leastBy [.ref 77, .int (M1 101 (ix x1)), .int x2] M1 (fun r2 M2 => (¬ r2 = 1000000000 → (vp_in x1 12) ∧ ((vp_in x1 12) ∧ (Q (some r2) (wr M2 101 (ix x1) ((M2 101 (ix x1)) ||| ((1 : Int32) <<< (x2 &&& 31))))))) ∧ (r2 = 1000000000 → Q (some (-3)) M2))))) ∧ (¬ (hasV (M 101 (ix x1)) x2) = 0 → Q (some (-2)) M))) ∧ ((isPV (M 77 0) x2) = 0 → Q (some (-1)) M))) : AX10_swear (d + 1) Q 0 [lR 77, lI x1, lI x2, none] [] M := by
  refine aw_aload_n dX10_swear_0 rfl rfl ?_
  refine aw_iload_n dX10_swear_1 rfl rfl ?_
  refine aw_callV (mi := iX10_isOath) (av := [.int x1]) (st := []) dX10_swear_2 ml_X10_292 kX10_isOath (by decide) ce_77 clX10 rfl rfl rfl (Nat.le_of_ble_eq_true rfl) (AM.mono (p_X10_isOath _) (fun r9 M9 e9 => ?_))
  obtain ⟨rfl, rfl⟩ := e9
  refine aw_if_eq (tgt := 16) dX10_swear_5 (by decide) (fun z => ?_) (fun z => ?_)
  · replace h := h.1 z
    refine aw_iconst (v := (-1)) dX10_swear_16 (by decide) ?_
    exact aw_iret dX10_swear_17 rfl rfl h
  · replace h := h.2 z
    refine aw_aload_n dX10_swear_8 rfl rfl ?_
    refine aw_iload_n dX10_swear_9 rfl rfl ?_
    refine aw_callV (mi := iX10_isPerson) (av := [.int x2]) (st := []) dX10_swear_10 ml_X10_141 kX10_isPerson (by decide) ce_77 clX10 rfl rfl rfl (Nat.le_of_ble_eq_true rfl) (AM.mono (p_X10_isPerson _) (fun r9 M9 e9 => ?_))
    obtain ⟨rfl, rfl⟩ := e9
    refine aw_if_ne (tgt := 18) dX10_swear_13 (by decide) (fun z => ?_) (fun z => ?_)
    · replace h := h.1 z
      refine aw_aload_n dX10_swear_18 rfl rfl ?_
      refine aw_getf dX10_swear_19 fl_X10_80 (by decide) ce_77 rfl (v := .ref 101) rfl ?_
      refine aw_iload_n dX10_swear_22 rfl rfl ?_
      obtain ⟨h9, h⟩ := h
      refine aw_iald dX10_swear_23 (by decide) ce_101 h9 ?_
      refine aw_iload_n dX10_swear_24 rfl rfl ?_
      refine aw_callS (mi := iX10_has) (av := [.int (M 101 (ix x1)), .int x2]) (st := []) dX10_swear_25 ml_X10_148 kX10_has rfl rfl (Nat.le_of_ble_eq_true rfl) (AM.mono (p_X10_has _ _) (fun r9 M9 e9 => ?_))
      obtain ⟨rfl, rfl⟩ := e9
      refine aw_if_eq (tgt := 34) dX10_swear_28 (by decide) (fun z => ?_) (fun z => ?_)
      · replace h := h.1 z
        refine aw_aload_n dX10_swear_34 rfl rfl ?_
        refine aw_iconst (v := 0) dX10_swear_35 (by decide) ?_
        refine aw_callV (mi := iX10_laysSteps) (av := [.int 0]) (st := []) dX10_swear_36 ml_X10_295 kX10_laysSteps (by decide) ce_77 clX10 rfl rfl rfl (Nat.le_of_ble_eq_true rfl) (AM.mono h (fun r9 M1 h => ?_))
        obtain ⟨rfl, h⟩ := h
        refine aw_aload_n dX10_swear_39 rfl rfl ?_
        refine aw_aload_n dX10_swear_40 rfl rfl ?_
        refine aw_getf dX10_swear_41 fl_X10_80 (by decide) ce_77 rfl (v := .ref 101) rfl ?_
        refine aw_iload_n dX10_swear_44 rfl rfl ?_
        obtain ⟨h9, h⟩ := h
        refine aw_iald dX10_swear_45 (by decide) ce_101 h9 ?_
        refine aw_iload_n dX10_swear_46 rfl rfl ?_
        refine aw_callV (mi := iX10_leastBy) (av := [.int (M1 101 (ix x1)), .int x2]) (st := []) dX10_swear_47 ml_X10_298 kX10_leastBy (by decide) ce_77 clX10 rfl rfl rfl (Nat.le_of_ble_eq_true rfl) (AM.mono h (fun r9 M2 h => ?_))
        obtain ⟨r2, rfl, h⟩ := h
        refine aw_istore_n (L2 := [lR 77, lI x1, lI x2, lI r2]) dX10_swear_50 rfl (by decide) rfl ?_
        refine aw_iload_n dX10_swear_51 rfl rfl ?_
        refine aw_ldcw dX10_swear_52 kc_X10_273 ?_
        refine aw_icmp_ne (tgt := 61) dX10_swear_55 (by decide) (fun z => ?_) (fun z => ?_)
        · replace h := h.1 z
          refine aw_aload_n dX10_swear_61 rfl rfl ?_
          refine aw_getf dX10_swear_62 fl_X10_80 (by decide) ce_77 rfl (v := .ref 101) rfl ?_
          refine aw_iload_n dX10_swear_65 rfl rfl ?_
          refine aw_aload_n dX10_swear_66 rfl rfl ?_
          refine aw_getf dX10_swear_67 fl_X10_80 (by decide) ce_77 rfl (v := .ref 101) rfl ?_
          refine aw_iload_n dX10_swear_70 rfl rfl ?_
          obtain ⟨h9, h⟩ := h
          refine aw_iald dX10_swear_71 (by decide) ce_101 h9 ?_
          refine aw_iconst (v := 1) dX10_swear_72 (by decide) ?_
          refine aw_iload_n dX10_swear_73 rfl rfl ?_
          refine aw_ishl dX10_swear_74 ?_
          refine aw_ior dX10_swear_75 ?_
          obtain ⟨h9, h⟩ := h
          refine aw_iast dX10_swear_76 (by decide) ce_101 h9 ?_
          refine aw_iload_n dX10_swear_77 rfl rfl ?_
          exact aw_iret dX10_swear_78 rfl rfl h
        · replace h := h.2 z
          refine aw_bipush (v := (-3)) dX10_swear_58 (by decide) ?_
          exact aw_iret dX10_swear_60 rfl rfl h
      · replace h := h.2 z
        refine aw_bipush (v := (-2)) dX10_swear_31 (by decide) ?_
        exact aw_iret dX10_swear_33 rfl rfl h
    · replace h := h.2 z
      refine aw_iconst (v := (-1)) dX10_swear_16 (by decide) ?_
      exact aw_iret dX10_swear_17 rfl rfl h
abbrev AX10_reach (d : Nat) (Q : Option Int32 → Mem → Prop) (pc : Nat) (L : List (Option Value)) (st : List Value) (M : Mem) : Prop := AW none RX10 cX10_reach 7 (some .int) d Q pc L st M
theorem eX10_reach {d : Nat} {Q : Option Int32 → Mem → Prop} (M : Mem) (x1 x2 : Int32) (h : AX10_reach d Q 0 [lR 77, lI x1, lI x2, none, none, none, none] [] M) : AM d iX10_reach [.ref 77, .int x1, .int x2] M Q := AM.of2 (by decide) rfl rfl h
theorem bX10_reach_0 {d : Nat} {Q : Option Int32 → Mem → Prop} (M : Mem) (x1 x2 : Int32) (h : AX10_reach (d + 1) Q 7 [lR 77, none, lI x2, lI ((1 : Int32) <<< (x1 &&& 31)), lI 1, none, none] [] M) : AX10_reach (d + 1) Q 0 [lR 77, lI x1, lI x2, none, none, none, none] [] M := by
  refine aw_iconst (v := 1) dX10_reach_0 (by decide) ?_
  refine aw_iload_n dX10_reach_1 rfl rfl ?_
  refine aw_ishl dX10_reach_2 ?_
  refine aw_istore_n (L2 := [lR 77, lI x1, lI x2, lI ((1 : Int32) <<< (x1 &&& 31)), none, none, none]) dX10_reach_3 rfl (by decide) rfl ?_
  refine aw_iconst (v := 1) dX10_reach_4 (by decide) ?_
  refine aw_istore (L2 := [lR 77, lI x1, lI x2, lI ((1 : Int32) <<< (x1 &&& 31)), lI 1, none, none]) dX10_reach_5 (by decide) rfl ?_
  exact aw_less (less_k (less_d (less_k (less_k (less_k (less_k (less_k less_nil))))))) h
theorem bX10_reach_7 {d : Nat} {Q : Option Int32 → Mem → Prop} (M : Mem) (x2 x3 x4 : Int32) (h : (x4 = 0 → Q (some x3) M) ∧ (¬ x4 = 0 → AX10_reach (d + 1) Q 18 [lR 77, none, lI x2, lI x3, lI 0, lI 0, none] [] M)) : AX10_reach (d + 1) Q 7 [lR 77, none, lI x2, lI x3, lI x4, none, none] [] M := by
  refine aw_iload dX10_reach_7 rfl ?_
  refine aw_if_eq (tgt := 105) dX10_reach_9 (by decide) (fun z => ?_) (fun z => ?_)
  · replace h := h.1 z
    refine aw_iload_n dX10_reach_105 rfl rfl ?_
    exact aw_iret dX10_reach_106 rfl rfl h
  · replace h := h.2 z
    refine aw_iconst (v := 0) dX10_reach_12 (by decide) ?_
    refine aw_istore (L2 := [lR 77, none, lI x2, lI x3, lI 0, none, none]) dX10_reach_13 (by decide) rfl ?_
    refine aw_iconst (v := 0) dX10_reach_15 (by decide) ?_
    refine aw_istore (L2 := [lR 77, none, lI x2, lI x3, lI 0, lI 0, none]) dX10_reach_16 (by decide) rfl ?_
    exact h
theorem bX10_reach_18 {d : Nat} {Q : Option Int32 → Mem → Prop} (M : Mem) (x2 x3 x4 x5 : Int32) (h : ((M 77 0) ≤ x5 → AX10_reach (d + 1) Q 7 [lR 77, none, lI x2, lI x3, lI x4, none, none] [] M) ∧ (¬ (M 77 0) ≤ x5 → AX10_reach (d + 1) Q 30 [lR 77, none, lI x2, lI x3, lI x4, lI x5, lI 0] [] M)) : AX10_reach (d + 1) Q 18 [lR 77, none, lI x2, lI x3, lI x4, lI x5, none] [] M := by
  refine aw_iload dX10_reach_18 rfl ?_
  refine aw_aload_n dX10_reach_20 rfl rfl ?_
  refine aw_getf dX10_reach_21 fl_X10_138 (by decide) ce_77 rfl (v := .int (M 77 0)) rfl ?_
  refine aw_icmp_ge (tgt := 102) dX10_reach_24 (by decide) (fun z => ?_) (fun z => ?_)
  · replace h := h.1 z
    refine aw_goto (tgt := 7) dX10_reach_102 (by decide) ?_
    exact aw_less (less_k (less_k (less_k (less_k (less_k (less_d (less_k less_nil))))))) h
  · replace h := h.2 z
    refine aw_iconst (v := 0) dX10_reach_27 (by decide) ?_
    refine aw_istore (L2 := [lR 77, none, lI x2, lI x3, lI x4, lI x5, lI 0]) dX10_reach_28 (by decide) rfl ?_
    exact h
theorem bX10_reach_30 {d : Nat} {Q : Option Int32 → Mem → Prop} (M : Mem) (x2 x3 x4 x5 x6 : Int32) (h : ((M 77 0) ≤ x6 → AX10_reach (d + 1) Q 18 [lR 77, none, lI x2, lI x3, lI x4, lI (x5 + 1), none] [] M) ∧ (¬ (M 77 0) ≤ x6 → (¬ (hasV x3 x5) = 0 → AX10_reach (d + 1) Q 30 [lR 77, none, lI x2, lI x3, lI x4, lI x5, lI (x6 + 1)] [] M) ∧ ((hasV x3 x5) = 0 → ((hasV x2 x5) = 0 → AX10_reach (d + 1) Q 30 [lR 77, none, lI x2, lI x3, lI x4, lI x5, lI (x6 + 1)] [] M) ∧ (¬ (hasV x2 x5) = 0 → ((hasV x3 x6) = 0 → AX10_reach (d + 1) Q 30 [lR 77, none, lI x2, lI x3, lI x4, lI x5, lI (x6 + 1)] [] M) ∧ (¬ (hasV x3 x6) = 0 → AMi d iX10_isStep [.ref 77, .int x6, .int x5] M (fun r1 M1 => (¬ r1 = 0 → AX10_reach (d + 1) Q 30 [lR 77, none, lI x2, lI (x3 ||| ((1 : Int32) <<< (x5 &&& 31))), lI 1, lI x5, lI (x6 + 1)] [] M1) ∧ (r1 = 0 → AX10_reach (d + 1) Q 30 [lR 77, none, lI x2, lI x3, lI x4, lI x5, lI (x6 + 1)] [] M1))))))) : AX10_reach (d + 1) Q 30 [lR 77, none, lI x2, lI x3, lI x4, lI x5, lI x6] [] M := by
  refine aw_iload dX10_reach_30 rfl ?_
  refine aw_aload_n dX10_reach_32 rfl rfl ?_
  refine aw_getf dX10_reach_33 fl_X10_138 (by decide) ce_77 rfl (v := .int (M 77 0)) rfl ?_
  refine aw_icmp_ge (tgt := 96) dX10_reach_36 (by decide) (fun z => ?_) (fun z => ?_)
  · replace h := h.1 z
    refine aw_iinc (y := 1) (L2 := [lR 77, none, lI x2, lI x3, lI x4, lI (x5 + 1), lI x6]) dX10_reach_96 rfl (by decide) (by decide) rfl ?_
    refine aw_goto (tgt := 18) dX10_reach_99 (by decide) ?_
    exact aw_less (less_k (less_k (less_k (less_k (less_k (less_k (less_d less_nil))))))) h
  · replace h := h.2 z
    refine aw_iload_n dX10_reach_39 rfl rfl ?_
    refine aw_iload dX10_reach_40 rfl ?_
    refine aw_callS (mi := iX10_has) (av := [.int x3, .int x5]) (st := []) dX10_reach_42 ml_X10_148 kX10_has rfl rfl (Nat.le_of_ble_eq_true rfl) (AM.mono (p_X10_has _ _) (fun r9 M9 e9 => ?_))
    obtain ⟨rfl, rfl⟩ := e9
    refine aw_if_ne (tgt := 90) dX10_reach_45 (by decide) (fun z => ?_) (fun z => ?_)
    · replace h := h.1 z
      refine aw_iinc (y := 1) (L2 := [lR 77, none, lI x2, lI x3, lI x4, lI x5, lI (x6 + 1)]) dX10_reach_90 rfl (by decide) (by decide) rfl ?_
      refine aw_goto (tgt := 30) dX10_reach_93 (by decide) ?_
      exact h
    · replace h := h.2 z
      refine aw_iload_n dX10_reach_48 rfl rfl ?_
      refine aw_iload dX10_reach_49 rfl ?_
      refine aw_callS (mi := iX10_has) (av := [.int x2, .int x5]) (st := []) dX10_reach_51 ml_X10_148 kX10_has rfl rfl (Nat.le_of_ble_eq_true rfl) (AM.mono (p_X10_has _ _) (fun r9 M9 e9 => ?_))
      obtain ⟨rfl, rfl⟩ := e9
      refine aw_if_eq (tgt := 90) dX10_reach_54 (by decide) (fun z => ?_) (fun z => ?_)
      · replace h := h.1 z
        refine aw_iinc (y := 1) (L2 := [lR 77, none, lI x2, lI x3, lI x4, lI x5, lI (x6 + 1)]) dX10_reach_90 rfl (by decide) (by decide) rfl ?_
        refine aw_goto (tgt := 30) dX10_reach_93 (by decide) ?_
        exact h
      · replace h := h.2 z
        refine aw_iload_n dX10_reach_57 rfl rfl ?_
        refine aw_iload dX10_reach_58 rfl ?_
        refine aw_callS (mi := iX10_has) (av := [.int x3, .int x6]) (st := []) dX10_reach_60 ml_X10_148 kX10_has rfl rfl (Nat.le_of_ble_eq_true rfl) (AM.mono (p_X10_has _ _) (fun r9 M9 e9 => ?_))
        obtain ⟨rfl, rfl⟩ := e9
        refine aw_if_eq (tgt := 90) dX10_reach_63 (by decide) (fun z => ?_) (fun z => ?_)
        · replace h := h.1 z
          refine aw_iinc (y := 1) (L2 := [lR 77, none, lI x2, lI x3, lI x4, lI x5, lI (x6 + 1)]) dX10_reach_90 rfl (by decide) (by decide) rfl ?_
          refine aw_goto (tgt := 30) dX10_reach_93 (by decide) ?_
          exact h
        · replace h := h.2 z
          refine aw_aload_n dX10_reach_66 rfl rfl ?_
          refine aw_iload dX10_reach_67 rfl ?_
          refine aw_iload dX10_reach_69 rfl ?_
          refine aw_callV (mi := iX10_isStep) (av := [.int x6, .int x5]) (st := []) dX10_reach_71 ml_X10_301 kX10_isStep (by decide) ce_77 clX10 rfl rfl rfl (Nat.le_of_ble_eq_true rfl) (AM.mono h (fun r9 M1 h => ?_))
          obtain ⟨r1, rfl, h⟩ := h
          refine aw_if_ne (tgt := 80) dX10_reach_74 (by decide) (fun z => ?_) (fun z => ?_)
          · replace h := h.1 z
            refine aw_iload_n dX10_reach_80 rfl rfl ?_
            refine aw_iconst (v := 1) dX10_reach_81 (by decide) ?_
            refine aw_iload dX10_reach_82 rfl ?_
            refine aw_ishl dX10_reach_84 ?_
            refine aw_ior dX10_reach_85 ?_
            refine aw_istore_n (L2 := [lR 77, none, lI x2, lI (x3 ||| ((1 : Int32) <<< (x5 &&& 31))), lI x4, lI x5, lI x6]) dX10_reach_86 rfl (by decide) rfl ?_
            refine aw_iconst (v := 1) dX10_reach_87 (by decide) ?_
            refine aw_istore (L2 := [lR 77, none, lI x2, lI (x3 ||| ((1 : Int32) <<< (x5 &&& 31))), lI 1, lI x5, lI x6]) dX10_reach_88 (by decide) rfl ?_
            refine aw_iinc (y := 1) (L2 := [lR 77, none, lI x2, lI (x3 ||| ((1 : Int32) <<< (x5 &&& 31))), lI 1, lI x5, lI (x6 + 1)]) dX10_reach_90 rfl (by decide) (by decide) rfl ?_
            refine aw_goto (tgt := 30) dX10_reach_93 (by decide) ?_
            exact h
          · replace h := h.2 z
            refine aw_goto (tgt := 90) dX10_reach_77 (by decide) ?_
            refine aw_iinc (y := 1) (L2 := [lR 77, none, lI x2, lI x3, lI x4, lI x5, lI (x6 + 1)]) dX10_reach_90 rfl (by decide) (by decide) rfl ?_
            refine aw_goto (tgt := 30) dX10_reach_93 (by decide) ?_
            exact h
abbrev AX10_holdsBy (d : Nat) (Q : Option Int32 → Mem → Prop) (pc : Nat) (L : List (Option Value)) (st : List Value) (M : Mem) : Prop := AW none RX10 cX10_holdsBy 3 (some .boolean) d Q pc L st M
theorem eX10_holdsBy {d : Nat} {Q : Option Int32 → Mem → Prop} (M : Mem) (x1 x2 : Int32) (h : AX10_holdsBy d Q 0 [lR 77, lI x1, lI x2] [] M) : AM d iX10_holdsBy [.ref 77, .int x1, .int x2] M Q := AM.of2 (by decide) rfl rfl h
theorem bX10_holdsBy_0 {d : Nat} {Q : Option Int32 → Mem → Prop} (M : Mem) (x1 x2 : Int32) (h : ((hasV (M 77 1) x1) = 0 → Q (some 0) M) ∧ (¬ (hasV (M 77 1) x1) = 0 → AMi d iX10_reach [.ref 77, .int x1, .int x2] M (fun r1 M1 => AMi d iX10_topOf [.ref 77] M1 (fun r2 M2 => ((hasV r1 r2) = 0 → Q (some 0) M2) ∧ (¬ (hasV r1 r2) = 0 → Q (some 1) M2))))) : AX10_holdsBy (d + 1) Q 0 [lR 77, lI x1, lI x2] [] M := by
  refine aw_aload_n dX10_holdsBy_0 rfl rfl ?_
  refine aw_getf dX10_holdsBy_1 fl_X10_145 (by decide) ce_77 rfl (v := .int (M 77 1)) rfl ?_
  refine aw_iload_n dX10_holdsBy_4 rfl rfl ?_
  refine aw_callS (mi := iX10_has) (av := [.int (M 77 1), .int x1]) (st := []) dX10_holdsBy_5 ml_X10_148 kX10_has rfl rfl (Nat.le_of_ble_eq_true rfl) (AM.mono (p_X10_has _ _) (fun r9 M9 e9 => ?_))
  obtain ⟨rfl, rfl⟩ := e9
  refine aw_if_eq (tgt := 31) dX10_holdsBy_8 (by decide) (fun z => ?_) (fun z => ?_)
  · replace h := h.1 z
    refine aw_iconst (v := 0) dX10_holdsBy_31 (by decide) ?_
    exact aw_iret dX10_holdsBy_32 rfl (nar_b (by decide)) h
  · replace h := h.2 z
    refine aw_aload_n dX10_holdsBy_11 rfl rfl ?_
    refine aw_iload_n dX10_holdsBy_12 rfl rfl ?_
    refine aw_iload_n dX10_holdsBy_13 rfl rfl ?_
    refine aw_callV (mi := iX10_reach) (av := [.int x1, .int x2]) (st := []) dX10_holdsBy_14 ml_X10_304 kX10_reach (by decide) ce_77 clX10 rfl rfl rfl (Nat.le_of_ble_eq_true rfl) (AM.mono h (fun r9 M1 h => ?_))
    obtain ⟨r1, rfl, h⟩ := h
    refine aw_aload_n dX10_holdsBy_17 rfl rfl ?_
    refine aw_callV (mi := iX10_topOf) (av := []) (st := [.int r1]) dX10_holdsBy_18 ml_X10_163 kX10_topOf (by decide) ce_77 clX10 rfl rfl rfl (Nat.le_of_ble_eq_true rfl) (AM.mono h (fun r9 M2 h => ?_))
    obtain ⟨r2, rfl, h⟩ := h
    refine aw_callS (mi := iX10_has) (av := [.int r1, .int r2]) (st := []) dX10_holdsBy_21 ml_X10_148 kX10_has rfl rfl (Nat.le_of_ble_eq_true rfl) (AM.mono (p_X10_has _ _) (fun r9 M9 e9 => ?_))
    obtain ⟨rfl, rfl⟩ := e9
    refine aw_if_eq (tgt := 31) dX10_holdsBy_24 (by decide) (fun z => ?_) (fun z => ?_)
    · replace h := h.1 z
      refine aw_iconst (v := 0) dX10_holdsBy_31 (by decide) ?_
      exact aw_iret dX10_holdsBy_32 rfl (nar_b (by decide)) h
    · replace h := h.2 z
      refine aw_iconst (v := 1) dX10_holdsBy_27 (by decide) ?_
      refine aw_goto (tgt := 32) dX10_holdsBy_28 (by decide) ?_
      exact aw_iret dX10_holdsBy_32 rfl (nar_b (by decide)) h
abbrev AX10_holdsNow (d : Nat) (Q : Option Int32 → Mem → Prop) (pc : Nat) (L : List (Option Value)) (st : List Value) (M : Mem) : Prop := AW none RX10 cX10_holdsNow 2 (some .boolean) d Q pc L st M
theorem eX10_holdsNow {d : Nat} {Q : Option Int32 → Mem → Prop} (M : Mem) (x1 : Int32) (h : AX10_holdsNow d Q 0 [lR 77, lI x1] [] M) : AM d iX10_holdsNow [.ref 77, .int x1] M Q := AM.of2 (by decide) rfl rfl h
theorem bX10_holdsNow_0 {d : Nat} {Q : Option Int32 → Mem → Prop} (M : Mem) (x1 : Int32) (h : (vp_in x1 12) ∧ ((vp_in x1 12) ∧ (AMi d iX10_holdsBy [.ref 77, .int (M 99 (ix x1)), .int (M 101 (ix x1))] M (fun r1 M1 => (r1 = 0 ∨ r1 = 1) ∧ Q (some r1) M1)))) : AX10_holdsNow (d + 1) Q 0 [lR 77, lI x1] [] M := by
  refine aw_aload_n dX10_holdsNow_0 rfl rfl ?_
  refine aw_aload_n dX10_holdsNow_1 rfl rfl ?_
  refine aw_getf dX10_holdsNow_2 fl_X10_74 (by decide) ce_77 rfl (v := .ref 99) rfl ?_
  refine aw_iload_n dX10_holdsNow_5 rfl rfl ?_
  obtain ⟨h9, h⟩ := h
  refine aw_iald dX10_holdsNow_6 (by decide) ce_99 h9 ?_
  refine aw_aload_n dX10_holdsNow_7 rfl rfl ?_
  refine aw_getf dX10_holdsNow_8 fl_X10_80 (by decide) ce_77 rfl (v := .ref 101) rfl ?_
  refine aw_iload_n dX10_holdsNow_11 rfl rfl ?_
  obtain ⟨h9, h⟩ := h
  refine aw_iald dX10_holdsNow_12 (by decide) ce_101 h9 ?_
  refine aw_callV (mi := iX10_holdsBy) (av := [.int (M 99 (ix x1)), .int (M 101 (ix x1))]) (st := []) dX10_holdsNow_13 ml_X10_307 kX10_holdsBy (by decide) ce_77 clX10 rfl rfl rfl (Nat.le_of_ble_eq_true rfl) (AM.mono h (fun r9 M1 h => ?_))
  obtain ⟨r1, rfl, h⟩ := h
  exact aw_iret dX10_holdsNow_16 rfl (nar_b h.1) h.2
abbrev AX10_holds (d : Nat) (Q : Option Int32 → Mem → Prop) (pc : Nat) (L : List (Option Value)) (st : List Value) (M : Mem) : Prop := AW none RX10 cX10_holds 2 (some .int) d Q pc L st M
theorem eX10_holds {d : Nat} {Q : Option Int32 → Mem → Prop} (M : Mem) (x1 : Int32) (h : AX10_holds d Q 0 [lR 77, lI x1] [] M) : AM d iX10_holds [.ref 77, .int x1] M Q := AM.of2 (by decide) rfl rfl h
theorem bX10_holds_0 {d : Nat} {Q : Option Int32 → Mem → Prop} (M : Mem) (x1 : Int32) (h : (¬ (isPV (M 77 34) x1) = 0 → AMv d iX10_laysSteps [.ref 77, .int 0] M (fun M1 => AMi d iX10_holdsNow [.ref 77, .int x1] M1 (fun r2 M2 => (r2 = 0 → Q (some 0) M2) ∧ (¬ r2 = 0 → Q (some 1) M2)))) ∧ ((isPV (M 77 34) x1) = 0 → Q (some (-1)) M)) : AX10_holds (d + 1) Q 0 [lR 77, lI x1] [] M := by
  refine aw_aload_n dX10_holds_0 rfl rfl ?_
  refine aw_iload_n dX10_holds_1 rfl rfl ?_
  refine aw_callV (mi := iX10_isOath) (av := [.int x1]) (st := []) dX10_holds_2 ml_X10_292 kX10_isOath (by decide) ce_77 clX10 rfl rfl rfl (Nat.le_of_ble_eq_true rfl) (AM.mono (p_X10_isOath _) (fun r9 M9 e9 => ?_))
  obtain ⟨rfl, rfl⟩ := e9
  refine aw_if_ne (tgt := 10) dX10_holds_5 (by decide) (fun z => ?_) (fun z => ?_)
  · replace h := h.1 z
    refine aw_aload_n dX10_holds_10 rfl rfl ?_
    refine aw_iconst (v := 0) dX10_holds_11 (by decide) ?_
    refine aw_callV (mi := iX10_laysSteps) (av := [.int 0]) (st := []) dX10_holds_12 ml_X10_295 kX10_laysSteps (by decide) ce_77 clX10 rfl rfl rfl (Nat.le_of_ble_eq_true rfl) (AM.mono h (fun r9 M1 h => ?_))
    obtain ⟨rfl, h⟩ := h
    refine aw_aload_n dX10_holds_15 rfl rfl ?_
    refine aw_iload_n dX10_holds_16 rfl rfl ?_
    refine aw_callV (mi := iX10_holdsNow) (av := [.int x1]) (st := []) dX10_holds_17 ml_X10_310 kX10_holdsNow (by decide) ce_77 clX10 rfl rfl rfl (Nat.le_of_ble_eq_true rfl) (AM.mono h (fun r9 M2 h => ?_))
    obtain ⟨r2, rfl, h⟩ := h
    refine aw_if_eq (tgt := 27) dX10_holds_20 (by decide) (fun z => ?_) (fun z => ?_)
    · replace h := h.1 z
      refine aw_iconst (v := 0) dX10_holds_27 (by decide) ?_
      exact aw_iret dX10_holds_28 rfl rfl h
    · replace h := h.2 z
      refine aw_iconst (v := 1) dX10_holds_23 (by decide) ?_
      refine aw_goto (tgt := 28) dX10_holds_24 (by decide) ?_
      exact aw_iret dX10_holds_28 rfl rfl h
  · replace h := h.2 z
    refine aw_iconst (v := (-1)) dX10_holds_8 (by decide) ?_
    exact aw_iret dX10_holds_9 rfl rfl h
abbrev AX10_holding (d : Nat) (Q : Option Int32 → Mem → Prop) (pc : Nat) (L : List (Option Value)) (st : List Value) (M : Mem) : Prop := AW none RX10 cX10_holding 4 (some .int) d Q pc L st M
theorem eX10_holding {d : Nat} {Q : Option Int32 → Mem → Prop} (M : Mem) (x1 : Int32) (h : AX10_holding d Q 0 [lR 77, lI x1, none, none] [] M) : AM d iX10_holding [.ref 77, .int x1] M Q := AM.of2 (by decide) rfl rfl h
theorem bX10_holding_0 {d : Nat} {Q : Option Int32 → Mem → Prop} (M : Mem) (x1 : Int32) (h : AMv d iX10_laysSteps [.ref 77, .int x1] M (fun M1 => AX10_holding (d + 1) Q 9 [lR 77, none, lI 0, lI 0] [] M1)) : AX10_holding (d + 1) Q 0 [lR 77, lI x1, none, none] [] M := by
  refine aw_aload_n dX10_holding_0 rfl rfl ?_
  refine aw_iload_n dX10_holding_1 rfl rfl ?_
  refine aw_callV (mi := iX10_laysSteps) (av := [.int x1]) (st := []) dX10_holding_2 ml_X10_295 kX10_laysSteps (by decide) ce_77 clX10 rfl rfl rfl (Nat.le_of_ble_eq_true rfl) (AM.mono h (fun r9 M1 h => ?_))
  obtain ⟨rfl, h⟩ := h
  refine aw_iconst (v := 0) dX10_holding_5 (by decide) ?_
  refine aw_istore_n (L2 := [lR 77, lI x1, lI 0, none]) dX10_holding_6 rfl (by decide) rfl ?_
  refine aw_iconst (v := 0) dX10_holding_7 (by decide) ?_
  refine aw_istore_n (L2 := [lR 77, lI x1, lI 0, lI 0]) dX10_holding_8 rfl (by decide) rfl ?_
  exact aw_less (less_k (less_d (less_k (less_k less_nil)))) h
theorem bX10_holding_9 {d : Nat} {Q : Option Int32 → Mem → Prop} (M : Mem) (x2 x3 : Int32) (h : ((M 77 34) ≤ x3 → Q (some x2) M) ∧ (¬ (M 77 34) ≤ x3 → AMi d iX10_holdsNow [.ref 77, .int x3] M (fun r1 M1 => (r1 = 0 → AX10_holding (d + 1) Q 9 [lR 77, none, lI x2, lI (x3 + 1)] [] M1) ∧ (¬ r1 = 0 → AX10_holding (d + 1) Q 9 [lR 77, none, lI (x2 ||| ((1 : Int32) <<< (x3 &&& 31))), lI (x3 + 1)] [] M1)))) : AX10_holding (d + 1) Q 9 [lR 77, none, lI x2, lI x3] [] M := by
  refine aw_iload_n dX10_holding_9 rfl rfl ?_
  refine aw_aload_n dX10_holding_10 rfl rfl ?_
  refine aw_getf dX10_holding_11 fl_X10_286 (by decide) ce_77 rfl (v := .int (M 77 34)) rfl ?_
  refine aw_icmp_ge (tgt := 41) dX10_holding_14 (by decide) (fun z => ?_) (fun z => ?_)
  · replace h := h.1 z
    refine aw_iload_n dX10_holding_41 rfl rfl ?_
    exact aw_iret dX10_holding_42 rfl rfl h
  · replace h := h.2 z
    refine aw_aload_n dX10_holding_17 rfl rfl ?_
    refine aw_iload_n dX10_holding_18 rfl rfl ?_
    refine aw_callV (mi := iX10_holdsNow) (av := [.int x3]) (st := []) dX10_holding_19 ml_X10_310 kX10_holdsNow (by decide) ce_77 clX10 rfl rfl rfl (Nat.le_of_ble_eq_true rfl) (AM.mono h (fun r9 M1 h => ?_))
    obtain ⟨r1, rfl, h⟩ := h
    refine aw_if_eq (tgt := 33) dX10_holding_22 (by decide) (fun z => ?_) (fun z => ?_)
    · replace h := h.1 z
      refine aw_iload_n dX10_holding_33 rfl rfl ?_
      refine aw_istore_n (L2 := [lR 77, none, lI x2, lI x3]) dX10_holding_34 rfl (by decide) rfl ?_
      refine aw_iinc (y := 1) (L2 := [lR 77, none, lI x2, lI (x3 + 1)]) dX10_holding_35 rfl (by decide) (by decide) rfl ?_
      refine aw_goto (tgt := 9) dX10_holding_38 (by decide) ?_
      exact h
    · replace h := h.2 z
      refine aw_iload_n dX10_holding_25 rfl rfl ?_
      refine aw_iconst (v := 1) dX10_holding_26 (by decide) ?_
      refine aw_iload_n dX10_holding_27 rfl rfl ?_
      refine aw_ishl dX10_holding_28 ?_
      refine aw_ior dX10_holding_29 ?_
      refine aw_goto (tgt := 34) dX10_holding_30 (by decide) ?_
      refine aw_istore_n (L2 := [lR 77, none, lI (x2 ||| ((1 : Int32) <<< (x3 &&& 31))), lI x3]) dX10_holding_34 rfl (by decide) rfl ?_
      refine aw_iinc (y := 1) (L2 := [lR 77, none, lI (x2 ||| ((1 : Int32) <<< (x3 &&& 31))), lI (x3 + 1)]) dX10_holding_35 rfl (by decide) (by decide) rfl ?_
      refine aw_goto (tgt := 9) dX10_holding_38 (by decide) ?_
      exact h
abbrev AX10_passes (d : Nat) (Q : Option Int32 → Mem → Prop) (pc : Nat) (L : List (Option Value)) (st : List Value) (M : Mem) : Prop := AW none RX10 cX10_passes 4 (some .int) d Q pc L st M
theorem eX10_passes {d : Nat} {Q : Option Int32 → Mem → Prop} (M : Mem) (x1 : Int32) (h : AX10_passes d Q 0 [lR 77, lI x1, none, none] [] M) : AM d iX10_passes [.ref 77, .int x1] M Q := AM.of2 (by decide) rfl rfl h
theorem bX10_passes_0 {d : Nat} {Q : Option Int32 → Mem → Prop} (M : Mem) (x1 : Int32) (h : AX10_passes (d + 1) Q 2 [lR 77, lI x1, lI 0, none] [] M) : AX10_passes (d + 1) Q 0 [lR 77, lI x1, none, none] [] M := by
  refine aw_iconst (v := 0) dX10_passes_0 (by decide) ?_
  refine aw_istore_n (L2 := [lR 77, lI x1, lI 0, none]) dX10_passes_1 rfl (by decide) rfl ?_
  exact h
theorem bX10_passes_2 {d : Nat} {Q : Option Int32 → Mem → Prop} (M : Mem) (x1 x2 : Int32) (h : ((M 77 0) ≤ x2 → AX10_passes (d + 1) Q 48 [lR 77, lI x1, lI 0, none] [] M) ∧ (¬ (M 77 0) ≤ x2 → ((hasV (M 77 1) x2) = 0 → AX10_passes (d + 1) Q 2 [lR 77, lI x1, lI (x2 + 1), none] [] M) ∧ (¬ (hasV (M 77 1) x2) = 0 → (vp_in x2 16) ∧ ((vp_in x2 16) ∧ (AX10_passes (d + 1) Q 2 [lR 77, lI x1, lI (x2 + 1), none] [] (wr M 80 (ix x2) (minV 99 ((M 80 (ix x2)) + 1)))))))) : AX10_passes (d + 1) Q 2 [lR 77, lI x1, lI x2, none] [] M := by
  refine aw_iload_n dX10_passes_2 rfl rfl ?_
  refine aw_aload_n dX10_passes_3 rfl rfl ?_
  refine aw_getf dX10_passes_4 fl_X10_138 (by decide) ce_77 rfl (v := .int (M 77 0)) rfl ?_
  refine aw_icmp_ge (tgt := 46) dX10_passes_7 (by decide) (fun z => ?_) (fun z => ?_)
  · replace h := h.1 z
    refine aw_iconst (v := 0) dX10_passes_46 (by decide) ?_
    refine aw_istore_n (L2 := [lR 77, lI x1, lI 0, none]) dX10_passes_47 rfl (by decide) rfl ?_
    exact h
  · replace h := h.2 z
    refine aw_aload_n dX10_passes_10 rfl rfl ?_
    refine aw_getf dX10_passes_11 fl_X10_145 (by decide) ce_77 rfl (v := .int (M 77 1)) rfl ?_
    refine aw_iload_n dX10_passes_14 rfl rfl ?_
    refine aw_callS (mi := iX10_has) (av := [.int (M 77 1), .int x2]) (st := []) dX10_passes_15 ml_X10_148 kX10_has rfl rfl (Nat.le_of_ble_eq_true rfl) (AM.mono (p_X10_has _ _) (fun r9 M9 e9 => ?_))
    obtain ⟨rfl, rfl⟩ := e9
    refine aw_if_eq (tgt := 40) dX10_passes_18 (by decide) (fun z => ?_) (fun z => ?_)
    · replace h := h.1 z
      refine aw_iinc (y := 1) (L2 := [lR 77, lI x1, lI (x2 + 1), none]) dX10_passes_40 rfl (by decide) (by decide) rfl ?_
      refine aw_goto (tgt := 2) dX10_passes_43 (by decide) ?_
      exact h
    · replace h := h.2 z
      refine aw_aload_n dX10_passes_21 rfl rfl ?_
      refine aw_getf dX10_passes_22 fl_X10_16 (by decide) ce_77 rfl (v := .ref 80) rfl ?_
      refine aw_iload_n dX10_passes_25 rfl rfl ?_
      refine aw_bipush (v := 99) dX10_passes_26 (by decide) ?_
      refine aw_aload_n dX10_passes_28 rfl rfl ?_
      refine aw_getf dX10_passes_29 fl_X10_16 (by decide) ce_77 rfl (v := .ref 80) rfl ?_
      refine aw_iload_n dX10_passes_32 rfl rfl ?_
      obtain ⟨h9, h⟩ := h
      refine aw_iald dX10_passes_33 (by decide) ce_80 h9 ?_
      refine aw_iconst (v := 1) dX10_passes_34 (by decide) ?_
      refine aw_iadd dX10_passes_35 ?_
      refine aw_callS (mi := iX10_min) (av := [.int 99, .int ((M 80 (ix x2)) + 1)]) (st := [.int x2, .ref 80]) dX10_passes_36 ml_X10_289 kX10_min rfl rfl (Nat.le_of_ble_eq_true rfl) (AM.mono (p_X10_min _ _) (fun r9 M9 e9 => ?_))
      obtain ⟨rfl, rfl⟩ := e9
      obtain ⟨h9, h⟩ := h
      refine aw_iast dX10_passes_39 (by decide) ce_80 h9 ?_
      refine aw_iinc (y := 1) (L2 := [lR 77, lI x1, lI (x2 + 1), none]) dX10_passes_40 rfl (by decide) (by decide) rfl ?_
      refine aw_goto (tgt := 2) dX10_passes_43 (by decide) ?_
      exact h
theorem bX10_passes_48 {d : Nat} {Q : Option Int32 → Mem → Prop} (M : Mem) (x1 x2 : Int32) (h : ((M 77 0) ≤ x2 → AX10_passes (d + 1) Q 119 [lR 77, lI x1, lI 0, none] [] M) ∧ (¬ (M 77 0) ≤ x2 → AMv d iX10_feels [.ref 77, .int x2] M (fun M1 => AMi d iX10_byLaw [.ref 77, .int 0, .int 103, .int 9] (wr M1 97 11 x1) (fun r2 M2 => (vp_in x2 16) ∧ ((¬ (M2 78 (ix x2)) = 2 → (vp_in x2 16) ∧ (AX10_passes (d + 1) Q 48 [lR 77, lI x1, lI (x2 + 1), none] [] (wr M2 102 (ix x2) (r2 + 0)))) ∧ ((M2 78 (ix x2)) = 2 → (vp_in x2 16) ∧ ((20 ≤ (M2 80 (ix x2)) → (vp_in x2 16) ∧ (AX10_passes (d + 1) Q 48 [lR 77, lI x1, lI (x2 + 1), none] [] (wr M2 102 (ix x2) (r2 + 0)))) ∧ (¬ 20 ≤ (M2 80 (ix x2)) → (vp_in x2 16) ∧ (AX10_passes (d + 1) Q 48 [lR 77, lI x1, lI (x2 + 1), none] [] (wr M2 102 (ix x2) (r2 + 1))))))))))) : AX10_passes (d + 1) Q 48 [lR 77, lI x1, lI x2, none] [] M := by
  refine aw_iload_n dX10_passes_48 rfl rfl ?_
  refine aw_aload_n dX10_passes_49 rfl rfl ?_
  refine aw_getf dX10_passes_50 fl_X10_138 (by decide) ce_77 rfl (v := .int (M 77 0)) rfl ?_
  refine aw_icmp_ge (tgt := 117) dX10_passes_53 (by decide) (fun z => ?_) (fun z => ?_)
  · replace h := h.1 z
    refine aw_iconst (v := 0) dX10_passes_117 (by decide) ?_
    refine aw_istore_n (L2 := [lR 77, lI x1, lI 0, none]) dX10_passes_118 rfl (by decide) rfl ?_
    exact h
  · replace h := h.2 z
    refine aw_aload_n dX10_passes_56 rfl rfl ?_
    refine aw_iload_n dX10_passes_57 rfl rfl ?_
    refine aw_callV (mi := iX10_feels) (av := [.int x2]) (st := []) dX10_passes_58 ml_X10_274 kX10_feels (by decide) ce_77 clX10 rfl rfl rfl (Nat.le_of_ble_eq_true rfl) (AM.mono h (fun r9 M1 h => ?_))
    obtain ⟨rfl, h⟩ := h
    refine aw_aload_n dX10_passes_61 rfl rfl ?_
    refine aw_getf dX10_passes_62 fl_X10_68 (by decide) ce_77 rfl (v := .ref 97) rfl ?_
    refine aw_bipush (v := 11) dX10_passes_65 (by decide) ?_
    refine aw_iload_n dX10_passes_67 rfl rfl ?_
    refine aw_iast dX10_passes_68 (by decide) ce_97 (by unfold vp_in; decide) ?_
    refine aw_aload_n dX10_passes_69 rfl rfl ?_
    refine aw_getf dX10_passes_70 fl_X10_83 (by decide) ce_77 rfl (v := .ref 102) rfl ?_
    refine aw_iload_n dX10_passes_73 rfl rfl ?_
    refine aw_aload_n dX10_passes_74 rfl rfl ?_
    refine aw_iconst (v := 0) dX10_passes_75 (by decide) ?_
    refine aw_bipush (v := 103) dX10_passes_76 (by decide) ?_
    refine aw_bipush (v := 9) dX10_passes_78 (by decide) ?_
    refine aw_callV (mi := iX10_byLaw) (av := [.int 0, .int 103, .int 9]) (st := [.int x2, .ref 102]) dX10_passes_80 ml_X10_280 kX10_byLaw (by decide) ce_77 clX10 rfl rfl rfl (Nat.le_of_ble_eq_true rfl) (AM.mono h (fun r9 M2 h => ?_))
    obtain ⟨r2, rfl, h⟩ := h
    refine aw_aload_n dX10_passes_83 rfl rfl ?_
    refine aw_getf dX10_passes_84 fl_X10_7 (by decide) ce_77 rfl (v := .ref 78) rfl ?_
    refine aw_iload_n dX10_passes_87 rfl rfl ?_
    obtain ⟨h9, h⟩ := h
    refine aw_iald dX10_passes_88 (by decide) ce_78 h9 ?_
    refine aw_iconst (v := 2) dX10_passes_89 (by decide) ?_
    refine aw_icmp_ne (tgt := 108) dX10_passes_90 (by decide) (fun z => ?_) (fun z => ?_)
    · replace h := h.1 z
      refine aw_iconst (v := 0) dX10_passes_108 (by decide) ?_
      refine aw_iadd dX10_passes_109 ?_
      obtain ⟨h9, h⟩ := h
      refine aw_iast dX10_passes_110 (by decide) ce_102 h9 ?_
      refine aw_iinc (y := 1) (L2 := [lR 77, lI x1, lI (x2 + 1), none]) dX10_passes_111 rfl (by decide) (by decide) rfl ?_
      refine aw_goto (tgt := 48) dX10_passes_114 (by decide) ?_
      exact h
    · replace h := h.2 z
      refine aw_aload_n dX10_passes_93 rfl rfl ?_
      refine aw_getf dX10_passes_94 fl_X10_16 (by decide) ce_77 rfl (v := .ref 80) rfl ?_
      refine aw_iload_n dX10_passes_97 rfl rfl ?_
      obtain ⟨h9, h⟩ := h
      refine aw_iald dX10_passes_98 (by decide) ce_80 h9 ?_
      refine aw_bipush (v := 20) dX10_passes_99 (by decide) ?_
      refine aw_icmp_ge (tgt := 108) dX10_passes_101 (by decide) (fun z => ?_) (fun z => ?_)
      · replace h := h.1 z
        refine aw_iconst (v := 0) dX10_passes_108 (by decide) ?_
        refine aw_iadd dX10_passes_109 ?_
        obtain ⟨h9, h⟩ := h
        refine aw_iast dX10_passes_110 (by decide) ce_102 h9 ?_
        refine aw_iinc (y := 1) (L2 := [lR 77, lI x1, lI (x2 + 1), none]) dX10_passes_111 rfl (by decide) (by decide) rfl ?_
        refine aw_goto (tgt := 48) dX10_passes_114 (by decide) ?_
        exact h
      · replace h := h.2 z
        refine aw_iconst (v := 1) dX10_passes_104 (by decide) ?_
        refine aw_goto (tgt := 109) dX10_passes_105 (by decide) ?_
        refine aw_iadd dX10_passes_109 ?_
        obtain ⟨h9, h⟩ := h
        refine aw_iast dX10_passes_110 (by decide) ce_102 h9 ?_
        refine aw_iinc (y := 1) (L2 := [lR 77, lI x1, lI (x2 + 1), none]) dX10_passes_111 rfl (by decide) (by decide) rfl ?_
        refine aw_goto (tgt := 48) dX10_passes_114 (by decide) ?_
        exact h
theorem bX10_passes_119 {d : Nat} {Q : Option Int32 → Mem → Prop} (M : Mem) (x1 x2 : Int32) (h : ((M 77 0) ≤ x2 → AX10_passes (d + 1) Q 172 [lR 77, lI x1, lI 0, lI 0] [] M) ∧ (¬ (M 77 0) ≤ x2 → ((hasV (M 77 1) x2) = 0 → AX10_passes (d + 1) Q 119 [lR 77, lI x1, lI (x2 + 1), none] [] M) ∧ (¬ (hasV (M 77 1) x2) = 0 → (vp_in x2 16) ∧ ((vp_in x2 16) ∧ ((vp_in x2 16) ∧ (AX10_passes (d + 1) Q 119 [lR 77, lI x1, lI (x2 + 1), none] [] (wr M 79 (ix x2) (minV 99 ((M 79 (ix x2)) + (M 102 (ix x2))))))))))) : AX10_passes (d + 1) Q 119 [lR 77, lI x1, lI x2, none] [] M := by
  refine aw_iload_n dX10_passes_119 rfl rfl ?_
  refine aw_aload_n dX10_passes_120 rfl rfl ?_
  refine aw_getf dX10_passes_121 fl_X10_138 (by decide) ce_77 rfl (v := .int (M 77 0)) rfl ?_
  refine aw_icmp_ge (tgt := 168) dX10_passes_124 (by decide) (fun z => ?_) (fun z => ?_)
  · replace h := h.1 z
    refine aw_iconst (v := 0) dX10_passes_168 (by decide) ?_
    refine aw_istore_n (L2 := [lR 77, lI x1, lI 0, none]) dX10_passes_169 rfl (by decide) rfl ?_
    refine aw_iconst (v := 0) dX10_passes_170 (by decide) ?_
    refine aw_istore_n (L2 := [lR 77, lI x1, lI 0, lI 0]) dX10_passes_171 rfl (by decide) rfl ?_
    exact h
  · replace h := h.2 z
    refine aw_aload_n dX10_passes_127 rfl rfl ?_
    refine aw_getf dX10_passes_128 fl_X10_145 (by decide) ce_77 rfl (v := .int (M 77 1)) rfl ?_
    refine aw_iload_n dX10_passes_131 rfl rfl ?_
    refine aw_callS (mi := iX10_has) (av := [.int (M 77 1), .int x2]) (st := []) dX10_passes_132 ml_X10_148 kX10_has rfl rfl (Nat.le_of_ble_eq_true rfl) (AM.mono (p_X10_has _ _) (fun r9 M9 e9 => ?_))
    obtain ⟨rfl, rfl⟩ := e9
    refine aw_if_eq (tgt := 162) dX10_passes_135 (by decide) (fun z => ?_) (fun z => ?_)
    · replace h := h.1 z
      refine aw_iinc (y := 1) (L2 := [lR 77, lI x1, lI (x2 + 1), none]) dX10_passes_162 rfl (by decide) (by decide) rfl ?_
      refine aw_goto (tgt := 119) dX10_passes_165 (by decide) ?_
      exact h
    · replace h := h.2 z
      refine aw_aload_n dX10_passes_138 rfl rfl ?_
      refine aw_getf dX10_passes_139 fl_X10_13 (by decide) ce_77 rfl (v := .ref 79) rfl ?_
      refine aw_iload_n dX10_passes_142 rfl rfl ?_
      refine aw_bipush (v := 99) dX10_passes_143 (by decide) ?_
      refine aw_aload_n dX10_passes_145 rfl rfl ?_
      refine aw_getf dX10_passes_146 fl_X10_13 (by decide) ce_77 rfl (v := .ref 79) rfl ?_
      refine aw_iload_n dX10_passes_149 rfl rfl ?_
      obtain ⟨h9, h⟩ := h
      refine aw_iald dX10_passes_150 (by decide) ce_79 h9 ?_
      refine aw_aload_n dX10_passes_151 rfl rfl ?_
      refine aw_getf dX10_passes_152 fl_X10_83 (by decide) ce_77 rfl (v := .ref 102) rfl ?_
      refine aw_iload_n dX10_passes_155 rfl rfl ?_
      obtain ⟨h9, h⟩ := h
      refine aw_iald dX10_passes_156 (by decide) ce_102 h9 ?_
      refine aw_iadd dX10_passes_157 ?_
      refine aw_callS (mi := iX10_min) (av := [.int 99, .int ((M 79 (ix x2)) + (M 102 (ix x2)))]) (st := [.int x2, .ref 79]) dX10_passes_158 ml_X10_289 kX10_min rfl rfl (Nat.le_of_ble_eq_true rfl) (AM.mono (p_X10_min _ _) (fun r9 M9 e9 => ?_))
      obtain ⟨rfl, rfl⟩ := e9
      obtain ⟨h9, h⟩ := h
      refine aw_iast dX10_passes_161 (by decide) ce_79 h9 ?_
      refine aw_iinc (y := 1) (L2 := [lR 77, lI x1, lI (x2 + 1), none]) dX10_passes_162 rfl (by decide) (by decide) rfl ?_
      refine aw_goto (tgt := 119) dX10_passes_165 (by decide) ?_
      exact h
theorem bX10_passes_172 {d : Nat} {Q : Option Int32 → Mem → Prop} (M : Mem) (x1 x2 x3 : Int32) (h : ((M 77 0) ≤ x3 → Q (some (bitsV x2)) (wr (wr M 77 1 ((M 77 1) &&& (x2 ^^^ (-1)))) 77 2 (minV 999 ((M 77 2) + 1)))) ∧ (¬ (M 77 0) ≤ x3 → AMv d iX10_feels [.ref 77, .int x3] M (fun M1 => ((hasV (M1 77 1) x3) = 0 → AX10_passes (d + 1) Q 172 [lR 77, lI x1, lI x2, lI (x3 + 1)] [] (wr M1 97 11 x1)) ∧ (¬ (hasV (M1 77 1) x3) = 0 → AMi d iX10_anyBy [.ref 77, .int 0, .int 120] (wr M1 97 11 x1) (fun r2 M2 => (r2 = 0 → AX10_passes (d + 1) Q 172 [lR 77, lI x1, lI x2, lI (x3 + 1)] [] M2) ∧ (¬ r2 = 0 → AX10_passes (d + 1) Q 172 [lR 77, lI x1, lI (x2 ||| ((1 : Int32) <<< (x3 &&& 31))), lI (x3 + 1)] [] M2)))))) : AX10_passes (d + 1) Q 172 [lR 77, lI x1, lI x2, lI x3] [] M := by
  refine aw_iload_n dX10_passes_172 rfl rfl ?_
  refine aw_aload_n dX10_passes_173 rfl rfl ?_
  refine aw_getf dX10_passes_174 fl_X10_138 (by decide) ce_77 rfl (v := .int (M 77 0)) rfl ?_
  refine aw_icmp_ge (tgt := 226) dX10_passes_177 (by decide) (fun z => ?_) (fun z => ?_)
  · replace h := h.1 z
    refine aw_aload_n dX10_passes_226 rfl rfl ?_
    refine aw_aload_n dX10_passes_227 rfl rfl ?_
    refine aw_getf dX10_passes_228 fl_X10_145 (by decide) ce_77 rfl (v := .int (M 77 1)) rfl ?_
    refine aw_iload_n dX10_passes_231 rfl rfl ?_
    refine aw_iconst (v := (-1)) dX10_passes_232 (by decide) ?_
    refine aw_ixor dX10_passes_233 ?_
    refine aw_iand dX10_passes_234 ?_
    refine aw_putf dX10_passes_235 fp_X10_145 (by decide) ce_77 rfl rfl rfl ?_
    refine aw_aload_n dX10_passes_238 rfl rfl ?_
    refine aw_sipush (v := 999) dX10_passes_239 (by decide) ?_
    refine aw_aload_n dX10_passes_242 rfl rfl ?_
    refine aw_getf dX10_passes_243 fl_X10_270 (by decide) ce_77 rfl (v := .int (M 77 2)) rfl ?_
    refine aw_iconst (v := 1) dX10_passes_246 (by decide) ?_
    refine aw_iadd dX10_passes_247 ?_
    refine aw_callS (mi := iX10_min) (av := [.int 999, .int ((M 77 2) + 1)]) (st := [.ref 77]) dX10_passes_248 ml_X10_289 kX10_min rfl rfl (Nat.le_of_ble_eq_true rfl) (AM.mono (p_X10_min _ _) (fun r9 M9 e9 => ?_))
    obtain ⟨rfl, rfl⟩ := e9
    refine aw_putf dX10_passes_251 fp_X10_270 (by decide) ce_77 rfl rfl rfl ?_
    refine aw_iload_n dX10_passes_254 rfl rfl ?_
    refine aw_callS (mi := iX10_bits) (av := [.int x2]) (st := []) dX10_passes_255 ml_X10_313 kX10_bits rfl rfl (Nat.le_of_ble_eq_true rfl) (AM.mono (p_X10_bits _) (fun r9 M9 e9 => ?_))
    obtain ⟨rfl, rfl⟩ := e9
    exact aw_iret dX10_passes_258 rfl rfl h
  · replace h := h.2 z
    refine aw_aload_n dX10_passes_180 rfl rfl ?_
    refine aw_iload_n dX10_passes_181 rfl rfl ?_
    refine aw_callV (mi := iX10_feels) (av := [.int x3]) (st := []) dX10_passes_182 ml_X10_274 kX10_feels (by decide) ce_77 clX10 rfl rfl rfl (Nat.le_of_ble_eq_true rfl) (AM.mono h (fun r9 M1 h => ?_))
    obtain ⟨rfl, h⟩ := h
    refine aw_aload_n dX10_passes_185 rfl rfl ?_
    refine aw_getf dX10_passes_186 fl_X10_68 (by decide) ce_77 rfl (v := .ref 97) rfl ?_
    refine aw_bipush (v := 11) dX10_passes_189 (by decide) ?_
    refine aw_iload_n dX10_passes_191 rfl rfl ?_
    refine aw_iast dX10_passes_192 (by decide) ce_97 (by unfold vp_in; decide) ?_
    refine aw_aload_n dX10_passes_193 rfl rfl ?_
    refine aw_getf dX10_passes_194 fl_X10_145 (by decide) ce_77 rfl (v := .int (M1 77 1)) rfl ?_
    refine aw_iload_n dX10_passes_197 rfl rfl ?_
    refine aw_callS (mi := iX10_has) (av := [.int (M1 77 1), .int x3]) (st := []) dX10_passes_198 ml_X10_148 kX10_has rfl rfl (Nat.le_of_ble_eq_true rfl) (AM.mono (p_X10_has _ _) (fun r9 M9 e9 => ?_))
    obtain ⟨rfl, rfl⟩ := e9
    refine aw_if_eq (tgt := 220) dX10_passes_201 (by decide) (fun z => ?_) (fun z => ?_)
    · replace h := h.1 z
      refine aw_iinc (y := 1) (L2 := [lR 77, lI x1, lI x2, lI (x3 + 1)]) dX10_passes_220 rfl (by decide) (by decide) rfl ?_
      refine aw_goto (tgt := 172) dX10_passes_223 (by decide) ?_
      exact h
    · replace h := h.2 z
      refine aw_aload_n dX10_passes_204 rfl rfl ?_
      refine aw_iconst (v := 0) dX10_passes_205 (by decide) ?_
      refine aw_bipush (v := 120) dX10_passes_206 (by decide) ?_
      refine aw_callV (mi := iX10_anyBy) (av := [.int 0, .int 120]) (st := []) dX10_passes_208 ml_X10_277 kX10_anyBy (by decide) ce_77 clX10 rfl rfl rfl (Nat.le_of_ble_eq_true rfl) (AM.mono h (fun r9 M2 h => ?_))
      obtain ⟨r2, rfl, h⟩ := h
      refine aw_if_eq (tgt := 220) dX10_passes_211 (by decide) (fun z => ?_) (fun z => ?_)
      · replace h := h.1 z
        refine aw_iinc (y := 1) (L2 := [lR 77, lI x1, lI x2, lI (x3 + 1)]) dX10_passes_220 rfl (by decide) (by decide) rfl ?_
        refine aw_goto (tgt := 172) dX10_passes_223 (by decide) ?_
        exact h
      · replace h := h.2 z
        refine aw_iload_n dX10_passes_214 rfl rfl ?_
        refine aw_iconst (v := 1) dX10_passes_215 (by decide) ?_
        refine aw_iload_n dX10_passes_216 rfl rfl ?_
        refine aw_ishl dX10_passes_217 ?_
        refine aw_ior dX10_passes_218 ?_
        refine aw_istore_n (L2 := [lR 77, lI x1, lI (x2 ||| ((1 : Int32) <<< (x3 &&& 31))), lI x3]) dX10_passes_219 rfl (by decide) rfl ?_
        refine aw_iinc (y := 1) (L2 := [lR 77, lI x1, lI (x2 ||| ((1 : Int32) <<< (x3 &&& 31))), lI (x3 + 1)]) dX10_passes_220 rfl (by decide) (by decide) rfl ?_
        refine aw_goto (tgt := 172) dX10_passes_223 (by decide) ?_
        exact h
abbrev AX10_draws (d : Nat) (Q : Option Int32 → Mem → Prop) (pc : Nat) (L : List (Option Value)) (st : List Value) (M : Mem) : Prop := AW none RX10 cX10_draws 1 (some .int) d Q pc L st M
theorem eX10_draws {d : Nat} {Q : Option Int32 → Mem → Prop} (M : Mem) (h : AX10_draws d Q 0 [lR 77] [] M) : AM d iX10_draws [.ref 77] M Q := AM.of2 (by decide) rfl rfl h
theorem bX10_draws_0 {d : Nat} {Q : Option Int32 → Mem → Prop} (M : Mem) (h : Q (some (((((25173 * (M 77 3)) + 13849) - ((25173 * (M 77 3)) + 13849) / 65536 * 65536)) - ((((25173 * (M 77 3)) + 13849) - ((25173 * (M 77 3)) + 13849) / 65536 * 65536)) / 10 * 10)) (wr M 77 3 (((25173 * (M 77 3)) + 13849) - ((25173 * (M 77 3)) + 13849) / 65536 * 65536))) : AX10_draws d Q 0 [lR 77] [] M := by
  refine aw_aload_n dX10_draws_0 rfl rfl ?_
  refine aw_sipush (v := 25173) dX10_draws_1 (by decide) ?_
  refine aw_aload_n dX10_draws_4 rfl rfl ?_
  refine aw_getf dX10_draws_5 fl_X10_134 (by decide) ce_77 rfl (v := .int (M 77 3)) rfl ?_
  refine aw_imul dX10_draws_8 ?_
  refine aw_sipush (v := 13849) dX10_draws_9 (by decide) ?_
  refine aw_iadd dX10_draws_12 ?_
  refine aw_ldcw dX10_draws_13 kc_X10_316 ?_
  refine aw_irem dX10_draws_16 (by decide) ?_
  refine aw_putf dX10_draws_17 fp_X10_134 (by decide) ce_77 rfl rfl rfl ?_
  refine aw_aload_n dX10_draws_20 rfl rfl ?_
  refine aw_getf dX10_draws_21 fl_X10_134 (by decide) ce_77 rfl (v := .int ((((25173 * (M 77 3)) + 13849) - ((25173 * (M 77 3)) + 13849) / 65536 * 65536))) rfl ?_
  refine aw_bipush (v := 10) dX10_draws_24 (by decide) ?_
  refine aw_irem dX10_draws_26 (by decide) ?_
  exact aw_iret dX10_draws_27 rfl rfl h
abbrev AX10_runs (d : Nat) (Q : Option Int32 → Mem → Prop) (pc : Nat) (L : List (Option Value)) (st : List Value) (M : Mem) : Prop := AW none RX10 cX10_runs 4 (some .int) d Q pc L st M
theorem eX10_runs {d : Nat} {Q : Option Int32 → Mem → Prop} (M : Mem) (x1 : Int32) (h : AX10_runs d Q 0 [lR 77, lI x1, none, none] [] M) : AM d iX10_runs [.ref 77, .int x1] M Q := AM.of2 (by decide) rfl rfl h
theorem bX10_runs_0 {d : Nat} {Q : Option Int32 → Mem → Prop} (M : Mem) (x1 : Int32) (h : AX10_runs (d + 1) Q 4 [lR 77, lI x1, lI 0, lI 0] [] M) : AX10_runs (d + 1) Q 0 [lR 77, lI x1, none, none] [] M := by
  refine aw_iconst (v := 0) dX10_runs_0 (by decide) ?_
  refine aw_istore_n (L2 := [lR 77, lI x1, lI 0, none]) dX10_runs_1 rfl (by decide) rfl ?_
  refine aw_iconst (v := 0) dX10_runs_2 (by decide) ?_
  refine aw_istore_n (L2 := [lR 77, lI x1, lI 0, lI 0]) dX10_runs_3 rfl (by decide) rfl ?_
  exact h
theorem bX10_runs_4 {d : Nat} {Q : Option Int32 → Mem → Prop} (M : Mem) (x1 x2 x3 : Int32) (h : (x1 ≤ x3 → Q (some x2) M) ∧ (¬ x1 ≤ x3 → AMi d iX10_draws [.ref 77] M (fun r1 M1 => AMi d iX10_passes [.ref 77, .int r1] M1 (fun r2 M2 => AX10_runs (d + 1) Q 4 [lR 77, lI x1, lI (x2 + r2), lI (x3 + 1)] [] M2)))) : AX10_runs (d + 1) Q 4 [lR 77, lI x1, lI x2, lI x3] [] M := by
  refine aw_iload_n dX10_runs_4 rfl rfl ?_
  refine aw_iload_n dX10_runs_5 rfl rfl ?_
  refine aw_icmp_ge (tgt := 26) dX10_runs_6 (by decide) (fun z => ?_) (fun z => ?_)
  · replace h := h.1 z
    refine aw_iload_n dX10_runs_26 rfl rfl ?_
    exact aw_iret dX10_runs_27 rfl rfl h
  · replace h := h.2 z
    refine aw_iload_n dX10_runs_9 rfl rfl ?_
    refine aw_aload_n dX10_runs_10 rfl rfl ?_
    refine aw_aload_n dX10_runs_11 rfl rfl ?_
    refine aw_callV (mi := iX10_draws) (av := []) (st := [.ref 77, .int x2]) dX10_runs_12 ml_X10_317 kX10_draws (by decide) ce_77 clX10 rfl rfl rfl (Nat.le_of_ble_eq_true rfl) (AM.mono h (fun r9 M1 h => ?_))
    obtain ⟨r1, rfl, h⟩ := h
    refine aw_callV (mi := iX10_passes) (av := [.int r1]) (st := [.int x2]) dX10_runs_15 ml_X10_320 kX10_passes (by decide) ce_77 clX10 rfl rfl rfl (Nat.le_of_ble_eq_true rfl) (AM.mono h (fun r9 M2 h => ?_))
    obtain ⟨r2, rfl, h⟩ := h
    refine aw_iadd dX10_runs_18 ?_
    refine aw_istore_n (L2 := [lR 77, lI x1, lI (x2 + r2), lI x3]) dX10_runs_19 rfl (by decide) rfl ?_
    refine aw_iinc (y := 1) (L2 := [lR 77, lI x1, lI (x2 + r2), lI (x3 + 1)]) dX10_runs_20 rfl (by decide) (by decide) rfl ?_
    refine aw_goto (tgt := 4) dX10_runs_23 (by decide) ?_
    exact h
abbrev AX10_year (d : Nat) (Q : Option Int32 → Mem → Prop) (pc : Nat) (L : List (Option Value)) (st : List Value) (M : Mem) : Prop := AW none RX10 cX10_year 2 (some .int) d Q pc L st M
theorem eX10_year {d : Nat} {Q : Option Int32 → Mem → Prop} (M : Mem) (x1 : Int32) (h : AX10_year d Q 0 [lR 77, lI x1] [] M) : AM d iX10_year [.ref 77, .int x1] M Q := AM.of2 (by decide) rfl rfl h
theorem bX10_year_0 {d : Nat} {Q : Option Int32 → Mem → Prop} (M : Mem) (x1 : Int32) (h : ((inV x1 0 9) = 0 → Q (some (-1)) M) ∧ (¬ (inV x1 0 9) = 0 → AMi d iX10_passes [.ref 77, .int x1] M (fun r1 M1 => Q (some r1) M1))) : AX10_year (d + 1) Q 0 [lR 77, lI x1] [] M := by
  refine aw_iload_n dX10_year_0 rfl rfl ?_
  refine aw_iconst (v := 0) dX10_year_1 (by decide) ?_
  refine aw_bipush (v := 9) dX10_year_2 (by decide) ?_
  refine aw_callS (mi := iX10_in) (av := [.int x1, .int 0, .int 9]) (st := []) dX10_year_4 ml_X10_152 kX10_in rfl rfl (Nat.le_of_ble_eq_true rfl) (AM.mono (p_X10_in _ _ _) (fun r9 M9 e9 => ?_))
  obtain ⟨rfl, rfl⟩ := e9
  refine aw_if_eq (tgt := 18) dX10_year_7 (by decide) (fun z => ?_) (fun z => ?_)
  · replace h := h.1 z
    refine aw_iconst (v := (-1)) dX10_year_18 (by decide) ?_
    exact aw_iret dX10_year_19 rfl rfl h
  · replace h := h.2 z
    refine aw_aload_n dX10_year_10 rfl rfl ?_
    refine aw_iload_n dX10_year_11 rfl rfl ?_
    refine aw_callV (mi := iX10_passes) (av := [.int x1]) (st := []) dX10_year_12 ml_X10_320 kX10_passes (by decide) ce_77 clX10 rfl rfl rfl (Nat.le_of_ble_eq_true rfl) (AM.mono h (fun r9 M1 h => ?_))
    obtain ⟨r1, rfl, h⟩ := h
    refine aw_goto (tgt := 19) dX10_year_15 (by decide) ?_
    exact aw_iret dX10_year_19 rfl rfl h
abbrev AX10_years (d : Nat) (Q : Option Int32 → Mem → Prop) (pc : Nat) (L : List (Option Value)) (st : List Value) (M : Mem) : Prop := AW none RX10 cX10_years 2 (some .int) d Q pc L st M
theorem eX10_years {d : Nat} {Q : Option Int32 → Mem → Prop} (M : Mem) (x1 : Int32) (h : AX10_years d Q 0 [lR 77, lI x1] [] M) : AM d iX10_years [.ref 77, .int x1] M Q := AM.of2 (by decide) rfl rfl h
theorem bX10_years_0 {d : Nat} {Q : Option Int32 → Mem → Prop} (M : Mem) (x1 : Int32) (h : ((inV x1 1 60) = 0 → Q (some (-1)) M) ∧ (¬ (inV x1 1 60) = 0 → AMi d iX10_runs [.ref 77, .int x1] M (fun r1 M1 => Q (some r1) M1))) : AX10_years (d + 1) Q 0 [lR 77, lI x1] [] M := by
  refine aw_iload_n dX10_years_0 rfl rfl ?_
  refine aw_callS (mi := iX10_areYears) (av := [.int x1]) (st := []) dX10_years_1 ml_X10_323 kX10_areYears rfl rfl (Nat.le_of_ble_eq_true rfl) (AM.mono (p_X10_areYears _) (fun r9 M9 e9 => ?_))
  obtain ⟨rfl, rfl⟩ := e9
  refine aw_if_eq (tgt := 15) dX10_years_4 (by decide) (fun z => ?_) (fun z => ?_)
  · replace h := h.1 z
    refine aw_iconst (v := (-1)) dX10_years_15 (by decide) ?_
    exact aw_iret dX10_years_16 rfl rfl h
  · replace h := h.2 z
    refine aw_aload_n dX10_years_7 rfl rfl ?_
    refine aw_iload_n dX10_years_8 rfl rfl ?_
    refine aw_callV (mi := iX10_runs) (av := [.int x1]) (st := []) dX10_years_9 ml_X10_326 kX10_runs (by decide) ce_77 clX10 rfl rfl rfl (Nat.le_of_ble_eq_true rfl) (AM.mono h (fun r9 M1 h => ?_))
    obtain ⟨r1, rfl, h⟩ := h
    refine aw_goto (tgt := 16) dX10_years_12 (by decide) ?_
    exact aw_iret dX10_years_16 rfl rfl h
abbrev AX10_copies (d : Nat) (Q : Option Int32 → Mem → Prop) (pc : Nat) (L : List (Option Value)) (st : List Value) (M : Mem) : Prop := AW none RX10 cX10_copies 4 none d Q pc L st M
theorem eX10_copies {d : Nat} {Q : Option Int32 → Mem → Prop} {f : Nat} {t : Nat} (M : Mem) (x2 : Int32) (h : AX10_copies d Q 0 [lR f, lR t, lI x2, none] [] M) : AM d iX10_copies [.ref f, .ref t, .int x2] M Q := AM.of2 (by decide) rfl rfl h
theorem bX10_copies_0 {d : Nat} {Q : Option Int32 → Mem → Prop} {nf nt : Nat} {f : Nat} (hk_f : f < K0) (hc_f : cellD f = .inr (.inl (false, nf))) {t : Nat} (hk_t : t < K0) (hc_t : cellD t = .inr (.inl (false, nt)))  (M : Mem) (x2 : Int32) (h : AX10_copies d Q 2 [lR f, lR t, lI x2, lI 0] [] M) : AX10_copies d Q 0 [lR f, lR t, lI x2, none] [] M := by
  refine aw_iconst (v := 0) dX10_copies_0 (by decide) ?_
  refine aw_istore_n (L2 := [lR f, lR t, lI x2, lI 0]) dX10_copies_1 rfl (by decide) rfl ?_
  exact h
theorem bX10_copies_2 {d : Nat} {Q : Option Int32 → Mem → Prop} {nf nt : Nat} {f : Nat} (hk_f : f < K0) (hc_f : cellD f = .inr (.inl (false, nf))) {t : Nat} (hk_t : t < K0) (hc_t : cellD t = .inr (.inl (false, nt)))  (M : Mem) (x2 x3 : Int32) (h : (x2 ≤ x3 → Q none M) ∧ (¬ x2 ≤ x3 → (vp_in x3 nf) ∧ ((vp_in x3 nt) ∧ (AX10_copies d Q 2 [lR f, lR t, lI x2, lI (x3 + 1)] [] (wr M t (ix x3) (M f (ix x3))))))) : AX10_copies d Q 2 [lR f, lR t, lI x2, lI x3] [] M := by
  refine aw_iload_n dX10_copies_2 rfl rfl ?_
  refine aw_iload_n dX10_copies_3 rfl rfl ?_
  refine aw_icmp_ge (tgt := 19) dX10_copies_4 (by decide) (fun z => ?_) (fun z => ?_)
  · replace h := h.1 z
    exact aw_vret dX10_copies_19 rfl h
  · replace h := h.2 z
    refine aw_aload_n dX10_copies_7 rfl rfl ?_
    refine aw_iload_n dX10_copies_8 rfl rfl ?_
    refine aw_aload_n dX10_copies_9 rfl rfl ?_
    refine aw_iload_n dX10_copies_10 rfl rfl ?_
    obtain ⟨h9, h⟩ := h
    refine aw_iald dX10_copies_11 hk_f hc_f h9 ?_
    obtain ⟨h9, h⟩ := h
    refine aw_iast dX10_copies_12 hk_t hc_t h9 ?_
    refine aw_iinc (y := 1) (L2 := [lR f, lR t, lI x2, lI (x3 + 1)]) dX10_copies_13 rfl (by decide) (by decide) rfl ?_
    refine aw_goto (tgt := 2) dX10_copies_16 (by decide) ?_
    exact h
abbrev AX10_begins (d : Nat) (Q : Option Int32 → Mem → Prop) (pc : Nat) (L : List (Option Value)) (st : List Value) (M : Mem) : Prop := AW none RX10 cX10_begins 1 none d Q pc L st M
theorem eX10_begins {d : Nat} {Q : Option Int32 → Mem → Prop} (M : Mem) (h : AX10_begins d Q 0 [lR 77] [] M) : AM d iX10_begins [.ref 77] M Q := AM.of2 (by decide) rfl rfl h
theorem bX10_begins_0 {d : Nat} {Q : Option Int32 → Mem → Prop} (M : Mem) (h : AMv d iX10_copies [.ref 79, .ref 103, .int 16] (wr (wr (wr M 77 39 (M 77 1)) 77 40 (M 77 2)) 77 41 (M 77 3)) (fun M1 => AMv d iX10_copies [.ref 80, .ref 104, .int 16] M1 (fun M2 => Q none M2))) : AX10_begins (d + 1) Q 0 [lR 77] [] M := by
  refine aw_aload_n dX10_begins_0 rfl rfl ?_
  refine aw_aload_n dX10_begins_1 rfl rfl ?_
  refine aw_getf dX10_begins_2 fl_X10_145 (by decide) ce_77 rfl (v := .int (M 77 1)) rfl ?_
  refine aw_putf dX10_begins_5 fp_X10_329 (by decide) ce_77 rfl rfl rfl ?_
  refine aw_aload_n dX10_begins_8 rfl rfl ?_
  refine aw_aload_n dX10_begins_9 rfl rfl ?_
  refine aw_getf dX10_begins_10 fl_X10_270 (by decide) ce_77 rfl (v := .int (M 77 2)) rfl ?_
  refine aw_putf dX10_begins_13 fp_X10_332 (by decide) ce_77 rfl rfl rfl ?_
  refine aw_aload_n dX10_begins_16 rfl rfl ?_
  refine aw_aload_n dX10_begins_17 rfl rfl ?_
  refine aw_getf dX10_begins_18 fl_X10_134 (by decide) ce_77 rfl (v := .int (M 77 3)) rfl ?_
  refine aw_putf dX10_begins_21 fp_X10_335 (by decide) ce_77 rfl rfl rfl ?_
  refine aw_aload_n dX10_begins_24 rfl rfl ?_
  refine aw_getf dX10_begins_25 fl_X10_13 (by decide) ce_77 rfl (v := .ref 79) rfl ?_
  refine aw_aload_n dX10_begins_28 rfl rfl ?_
  refine aw_getf dX10_begins_29 fl_X10_86 (by decide) ce_77 rfl (v := .ref 103) rfl ?_
  refine aw_bipush (v := 16) dX10_begins_32 (by decide) ?_
  refine aw_callS (mi := iX10_copies) (av := [.ref 79, .ref 103, .int 16]) (st := []) dX10_begins_34 ml_X10_338 kX10_copies rfl rfl (Nat.le_of_ble_eq_true rfl) (AM.mono h (fun r9 M1 h => ?_))
  obtain ⟨rfl, h⟩ := h
  refine aw_aload_n dX10_begins_37 rfl rfl ?_
  refine aw_getf dX10_begins_38 fl_X10_16 (by decide) ce_77 rfl (v := .ref 80) rfl ?_
  refine aw_aload_n dX10_begins_41 rfl rfl ?_
  refine aw_getf dX10_begins_42 fl_X10_89 (by decide) ce_77 rfl (v := .ref 104) rfl ?_
  refine aw_bipush (v := 16) dX10_begins_45 (by decide) ?_
  refine aw_callS (mi := iX10_copies) (av := [.ref 80, .ref 104, .int 16]) (st := []) dX10_begins_47 ml_X10_338 kX10_copies rfl rfl (Nat.le_of_ble_eq_true rfl) (AM.mono h (fun r9 M2 h => ?_))
  obtain ⟨rfl, h⟩ := h
  exact aw_vret dX10_begins_50 rfl h
abbrev AX10_again (d : Nat) (Q : Option Int32 → Mem → Prop) (pc : Nat) (L : List (Option Value)) (st : List Value) (M : Mem) : Prop := AW none RX10 cX10_again 1 none d Q pc L st M
theorem eX10_again {d : Nat} {Q : Option Int32 → Mem → Prop} (M : Mem) (h : AX10_again d Q 0 [lR 77] [] M) : AM d iX10_again [.ref 77] M Q := AM.of2 (by decide) rfl rfl h
theorem bX10_again_0 {d : Nat} {Q : Option Int32 → Mem → Prop} (M : Mem) (h : AMv d iX10_copies [.ref 103, .ref 79, .int 16] (wr (wr (wr M 77 1 (M 77 39)) 77 2 (M 77 40)) 77 3 (M 77 41)) (fun M1 => AMv d iX10_copies [.ref 104, .ref 80, .int 16] M1 (fun M2 => Q none M2))) : AX10_again (d + 1) Q 0 [lR 77] [] M := by
  refine aw_aload_n dX10_again_0 rfl rfl ?_
  refine aw_aload_n dX10_again_1 rfl rfl ?_
  refine aw_getf dX10_again_2 fl_X10_329 (by decide) ce_77 rfl (v := .int (M 77 39)) rfl ?_
  refine aw_putf dX10_again_5 fp_X10_145 (by decide) ce_77 rfl rfl rfl ?_
  refine aw_aload_n dX10_again_8 rfl rfl ?_
  refine aw_aload_n dX10_again_9 rfl rfl ?_
  refine aw_getf dX10_again_10 fl_X10_332 (by decide) ce_77 rfl (v := .int (M 77 40)) rfl ?_
  refine aw_putf dX10_again_13 fp_X10_270 (by decide) ce_77 rfl rfl rfl ?_
  refine aw_aload_n dX10_again_16 rfl rfl ?_
  refine aw_aload_n dX10_again_17 rfl rfl ?_
  refine aw_getf dX10_again_18 fl_X10_335 (by decide) ce_77 rfl (v := .int (M 77 41)) rfl ?_
  refine aw_putf dX10_again_21 fp_X10_134 (by decide) ce_77 rfl rfl rfl ?_
  refine aw_aload_n dX10_again_24 rfl rfl ?_
  refine aw_getf dX10_again_25 fl_X10_86 (by decide) ce_77 rfl (v := .ref 103) rfl ?_
  refine aw_aload_n dX10_again_28 rfl rfl ?_
  refine aw_getf dX10_again_29 fl_X10_13 (by decide) ce_77 rfl (v := .ref 79) rfl ?_
  refine aw_bipush (v := 16) dX10_again_32 (by decide) ?_
  refine aw_callS (mi := iX10_copies) (av := [.ref 103, .ref 79, .int 16]) (st := []) dX10_again_34 ml_X10_338 kX10_copies rfl rfl (Nat.le_of_ble_eq_true rfl) (AM.mono h (fun r9 M1 h => ?_))
  obtain ⟨rfl, h⟩ := h
  refine aw_aload_n dX10_again_37 rfl rfl ?_
  refine aw_getf dX10_again_38 fl_X10_89 (by decide) ce_77 rfl (v := .ref 104) rfl ?_
  refine aw_aload_n dX10_again_41 rfl rfl ?_
  refine aw_getf dX10_again_42 fl_X10_16 (by decide) ce_77 rfl (v := .ref 80) rfl ?_
  refine aw_bipush (v := 16) dX10_again_45 (by decide) ?_
  refine aw_callS (mi := iX10_copies) (av := [.ref 104, .ref 80, .int 16]) (st := []) dX10_again_47 ml_X10_338 kX10_copies rfl rfl (Nat.le_of_ble_eq_true rfl) (AM.mono h (fun r9 M2 h => ?_))
  obtain ⟨rfl, h⟩ := h
  exact aw_vret dX10_again_50 rfl h
abbrev AX10_tried (d : Nat) (Q : Option Int32 → Mem → Prop) (pc : Nat) (L : List (Option Value)) (st : List Value) (M : Mem) : Prop := AW none RX10 cX10_tried 4 (some .int) d Q pc L st M
theorem eX10_tried {d : Nat} {Q : Option Int32 → Mem → Prop} (M : Mem) (x1 x2 : Int32) (h : AX10_tried d Q 0 [lR 77, lI x1, lI x2, none] [] M) : AM d iX10_tried [.ref 77, .int x1, .int x2] M Q := AM.of2 (by decide) rfl rfl h
theorem bX10_tried_0 {d : Nat} {Q : Option Int32 → Mem → Prop} (M : Mem) (x1 x2 : Int32) (h : ((inV x1 1 60) = 0 → Q (some (-1)) M) ∧ (¬ (inV x1 1 60) = 0 → (x2 = (-1) → AX10_tried (d + 1) Q 28 [lR 77, lI x1, lI x2, none] [] M) ∧ (¬ x2 = (-1) → (x2 = 20 → AX10_tried (d + 1) Q 28 [lR 77, lI x1, lI x2, none] [] M) ∧ (¬ x2 = 20 → (¬ (isPV (M 77 0) x2) = 0 → AX10_tried (d + 1) Q 28 [lR 77, lI x1, lI x2, none] [] M) ∧ ((isPV (M 77 0) x2) = 0 → Q (some (-1)) M))))) : AX10_tried (d + 1) Q 0 [lR 77, lI x1, lI x2, none] [] M := by
  refine aw_iload_n dX10_tried_0 rfl rfl ?_
  refine aw_callS (mi := iX10_areYears) (av := [.int x1]) (st := []) dX10_tried_1 ml_X10_323 kX10_areYears rfl rfl (Nat.le_of_ble_eq_true rfl) (AM.mono (p_X10_areYears _) (fun r9 M9 e9 => ?_))
  obtain ⟨rfl, rfl⟩ := e9
  refine aw_if_eq (tgt := 26) dX10_tried_4 (by decide) (fun z => ?_) (fun z => ?_)
  · replace h := h.1 z
    refine aw_iconst (v := (-1)) dX10_tried_26 (by decide) ?_
    exact aw_iret dX10_tried_27 rfl rfl h
  · replace h := h.2 z
    refine aw_iload_n dX10_tried_7 rfl rfl ?_
    refine aw_iconst (v := (-1)) dX10_tried_8 (by decide) ?_
    refine aw_icmp_eq (tgt := 28) dX10_tried_9 (by decide) (fun z => ?_) (fun z => ?_)
    · replace h := h.1 z
      exact h
    · replace h := h.2 z
      refine aw_iload_n dX10_tried_12 rfl rfl ?_
      refine aw_bipush (v := 20) dX10_tried_13 (by decide) ?_
      refine aw_icmp_eq (tgt := 28) dX10_tried_15 (by decide) (fun z => ?_) (fun z => ?_)
      · replace h := h.1 z
        exact h
      · replace h := h.2 z
        refine aw_aload_n dX10_tried_18 rfl rfl ?_
        refine aw_iload_n dX10_tried_19 rfl rfl ?_
        refine aw_callV (mi := iX10_isPerson) (av := [.int x2]) (st := []) dX10_tried_20 ml_X10_141 kX10_isPerson (by decide) ce_77 clX10 rfl rfl rfl (Nat.le_of_ble_eq_true rfl) (AM.mono (p_X10_isPerson _) (fun r9 M9 e9 => ?_))
        obtain ⟨rfl, rfl⟩ := e9
        refine aw_if_ne (tgt := 28) dX10_tried_23 (by decide) (fun z => ?_) (fun z => ?_)
        · replace h := h.1 z
          exact h
        · replace h := h.2 z
          refine aw_iconst (v := (-1)) dX10_tried_26 (by decide) ?_
          exact aw_iret dX10_tried_27 rfl rfl h
theorem bX10_tried_28 {d : Nat} {Q : Option Int32 → Mem → Prop} (M : Mem) (x1 x2 : Int32) (h : AMv d iX10_begins [.ref 77] M (fun M1 => AMi d iX10_runs [.ref 77, .int x1] M1 (fun r2 M2 => (¬ x2 = (-1) → (¬ x2 = 20 → ((hasV (M2 77 1) x2) = 0 → AMv d iX10_again [.ref 77] M2 (fun M3 => Q (some (-2)) M3)) ∧ (¬ (hasV (M2 77 1) x2) = 0 → AMi d iX10_tallOf [.ref 77, .int x2] M2 (fun r4 M4 => AMv d iX10_again [.ref 77] M4 (fun M5 => Q (some r4) M5)))) ∧ (x2 = 20 → AMv d iX10_again [.ref 77] M2 (fun M6 => Q (some (bitsV (M2 77 1))) M6))) ∧ (x2 = (-1) → AMi d iX10_holding [.ref 77, .int 0] M2 (fun r7 M7 => AMv d iX10_again [.ref 77] M7 (fun M8 => Q (some (bitsV r7)) M8)))))) : AX10_tried (d + 1) Q 28 [lR 77, lI x1, lI x2, none] [] M := by
  refine aw_aload_n dX10_tried_28 rfl rfl ?_
  refine aw_callV (mi := iX10_begins) (av := []) (st := []) dX10_tried_29 ml_X10_342 kX10_begins (by decide) ce_77 clX10 rfl rfl rfl (Nat.le_of_ble_eq_true rfl) (AM.mono h (fun r9 M1 h => ?_))
  obtain ⟨rfl, h⟩ := h
  refine aw_aload_n dX10_tried_32 rfl rfl ?_
  refine aw_iload_n dX10_tried_33 rfl rfl ?_
  refine aw_callV (mi := iX10_runs) (av := [.int x1]) (st := []) dX10_tried_34 ml_X10_326 kX10_runs (by decide) ce_77 clX10 rfl rfl rfl (Nat.le_of_ble_eq_true rfl) (AM.mono h (fun r9 M2 h => ?_))
  obtain ⟨r2, rfl, h⟩ := h
  refine aw_pop dX10_tried_37 rfl ?_
  refine aw_iload_n dX10_tried_38 rfl rfl ?_
  refine aw_iconst (v := (-1)) dX10_tried_39 (by decide) ?_
  refine aw_icmp_ne (tgt := 54) dX10_tried_40 (by decide) (fun z => ?_) (fun z => ?_)
  · replace h := h.1 z
    refine aw_iload_n dX10_tried_54 rfl rfl ?_
    refine aw_bipush (v := 20) dX10_tried_55 (by decide) ?_
    refine aw_icmp_ne (tgt := 70) dX10_tried_57 (by decide) (fun z => ?_) (fun z => ?_)
    · replace h := h.1 z
      refine aw_aload_n dX10_tried_70 rfl rfl ?_
      refine aw_getf dX10_tried_71 fl_X10_145 (by decide) ce_77 rfl (v := .int (M2 77 1)) rfl ?_
      refine aw_iload_n dX10_tried_74 rfl rfl ?_
      refine aw_callS (mi := iX10_has) (av := [.int (M2 77 1), .int x2]) (st := []) dX10_tried_75 ml_X10_148 kX10_has rfl rfl (Nat.le_of_ble_eq_true rfl) (AM.mono (p_X10_has _ _) (fun r9 M9 e9 => ?_))
      obtain ⟨rfl, rfl⟩ := e9
      refine aw_if_eq (tgt := 89) dX10_tried_78 (by decide) (fun z => ?_) (fun z => ?_)
      · replace h := h.1 z
        refine aw_bipush (v := (-2)) dX10_tried_89 (by decide) ?_
        refine aw_istore_n (L2 := [lR 77, lI x1, lI x2, lI (-2)]) dX10_tried_91 rfl (by decide) rfl ?_
        refine aw_aload_n dX10_tried_92 rfl rfl ?_
        refine aw_callV (mi := iX10_again) (av := []) (st := []) dX10_tried_93 ml_X10_348 kX10_again (by decide) ce_77 clX10 rfl rfl rfl (Nat.le_of_ble_eq_true rfl) (AM.mono h (fun r9 M3 h => ?_))
        obtain ⟨rfl, h⟩ := h
        refine aw_iload_n dX10_tried_96 rfl rfl ?_
        exact aw_iret dX10_tried_97 rfl rfl h
      · replace h := h.2 z
        refine aw_aload_n dX10_tried_81 rfl rfl ?_
        refine aw_iload_n dX10_tried_82 rfl rfl ?_
        refine aw_callV (mi := iX10_tallOf) (av := [.int x2]) (st := []) dX10_tried_83 ml_X10_159 kX10_tallOf (by decide) ce_77 clX10 rfl rfl rfl (Nat.le_of_ble_eq_true rfl) (AM.mono h (fun r9 M4 h => ?_))
        obtain ⟨r4, rfl, h⟩ := h
        refine aw_goto (tgt := 91) dX10_tried_86 (by decide) ?_
        refine aw_istore_n (L2 := [lR 77, lI x1, lI x2, lI r4]) dX10_tried_91 rfl (by decide) rfl ?_
        refine aw_aload_n dX10_tried_92 rfl rfl ?_
        refine aw_callV (mi := iX10_again) (av := []) (st := []) dX10_tried_93 ml_X10_348 kX10_again (by decide) ce_77 clX10 rfl rfl rfl (Nat.le_of_ble_eq_true rfl) (AM.mono h (fun r9 M5 h => ?_))
        obtain ⟨rfl, h⟩ := h
        refine aw_iload_n dX10_tried_96 rfl rfl ?_
        exact aw_iret dX10_tried_97 rfl rfl h
    · replace h := h.2 z
      refine aw_aload_n dX10_tried_60 rfl rfl ?_
      refine aw_getf dX10_tried_61 fl_X10_145 (by decide) ce_77 rfl (v := .int (M2 77 1)) rfl ?_
      refine aw_callS (mi := iX10_bits) (av := [.int (M2 77 1)]) (st := []) dX10_tried_64 ml_X10_313 kX10_bits rfl rfl (Nat.le_of_ble_eq_true rfl) (AM.mono (p_X10_bits _) (fun r9 M9 e9 => ?_))
      obtain ⟨rfl, rfl⟩ := e9
      refine aw_goto (tgt := 91) dX10_tried_67 (by decide) ?_
      refine aw_istore_n (L2 := [lR 77, lI x1, lI x2, lI (bitsV (M2 77 1))]) dX10_tried_91 rfl (by decide) rfl ?_
      refine aw_aload_n dX10_tried_92 rfl rfl ?_
      refine aw_callV (mi := iX10_again) (av := []) (st := []) dX10_tried_93 ml_X10_348 kX10_again (by decide) ce_77 clX10 rfl rfl rfl (Nat.le_of_ble_eq_true rfl) (AM.mono h (fun r9 M6 h => ?_))
      obtain ⟨rfl, h⟩ := h
      refine aw_iload_n dX10_tried_96 rfl rfl ?_
      exact aw_iret dX10_tried_97 rfl rfl h
  · replace h := h.2 z
    refine aw_aload_n dX10_tried_43 rfl rfl ?_
    refine aw_iconst (v := 0) dX10_tried_44 (by decide) ?_
    refine aw_callV (mi := iX10_holding) (av := [.int 0]) (st := []) dX10_tried_45 ml_X10_345 kX10_holding (by decide) ce_77 clX10 rfl rfl rfl (Nat.le_of_ble_eq_true rfl) (AM.mono h (fun r9 M7 h => ?_))
    obtain ⟨r7, rfl, h⟩ := h
    refine aw_callS (mi := iX10_bits) (av := [.int r7]) (st := []) dX10_tried_48 ml_X10_313 kX10_bits rfl rfl (Nat.le_of_ble_eq_true rfl) (AM.mono (p_X10_bits _) (fun r9 M9 e9 => ?_))
    obtain ⟨rfl, rfl⟩ := e9
    refine aw_goto (tgt := 91) dX10_tried_51 (by decide) ?_
    refine aw_istore_n (L2 := [lR 77, lI x1, lI x2, lI (bitsV r7)]) dX10_tried_91 rfl (by decide) rfl ?_
    refine aw_aload_n dX10_tried_92 rfl rfl ?_
    refine aw_callV (mi := iX10_again) (av := []) (st := []) dX10_tried_93 ml_X10_348 kX10_again (by decide) ce_77 clX10 rfl rfl rfl (Nat.le_of_ble_eq_true rfl) (AM.mono h (fun r9 M8 h => ?_))
    obtain ⟨rfl, h⟩ := h
    refine aw_iload_n dX10_tried_96 rfl rfl ?_
    exact aw_iret dX10_tried_97 rfl rfl h
abbrev AX10_askedBy (d : Nat) (Q : Option Int32 → Mem → Prop) (pc : Nat) (L : List (Option Value)) (st : List Value) (M : Mem) : Prop := AW none RX10 cX10_askedBy 4 (some .int) d Q pc L st M
theorem eX10_askedBy {d : Nat} {Q : Option Int32 → Mem → Prop} (M : Mem) (x1 x2 x3 : Int32) (h : AX10_askedBy d Q 0 [lR 77, lI x1, lI x2, lI x3] [] M) : AM d iX10_askedBy [.ref 77, .int x1, .int x2, .int x3] M Q := AM.of2 (by decide) rfl rfl h
theorem bX10_askedBy_0 {d : Nat} {Q : Option Int32 → Mem → Prop} (M : Mem) (x1 x2 x3 : Int32) (h : ((hasV x3 x2) = 0 → (vp_in ((16 * x1) + x2) 256) ∧ (Q (some (M 98 (ix ((16 * x1) + x2)))) M)) ∧ (¬ (hasV x3 x2) = 0 → Q (some 0) M)) : AX10_askedBy (d + 1) Q 0 [lR 77, lI x1, lI x2, lI x3] [] M := by
  refine aw_iload_n dX10_askedBy_0 rfl rfl ?_
  refine aw_iload_n dX10_askedBy_1 rfl rfl ?_
  refine aw_callS (mi := iX10_has) (av := [.int x3, .int x2]) (st := []) dX10_askedBy_2 ml_X10_148 kX10_has rfl rfl (Nat.le_of_ble_eq_true rfl) (AM.mono (p_X10_has _ _) (fun r9 M9 e9 => ?_))
  obtain ⟨rfl, rfl⟩ := e9
  refine aw_if_eq (tgt := 12) dX10_askedBy_5 (by decide) (fun z => ?_) (fun z => ?_)
  · replace h := h.1 z
    refine aw_aload_n dX10_askedBy_12 rfl rfl ?_
    refine aw_getf dX10_askedBy_13 fl_X10_71 (by decide) ce_77 rfl (v := .ref 98) rfl ?_
    refine aw_bipush (v := 16) dX10_askedBy_16 (by decide) ?_
    refine aw_iload_n dX10_askedBy_18 rfl rfl ?_
    refine aw_imul dX10_askedBy_19 ?_
    refine aw_iload_n dX10_askedBy_20 rfl rfl ?_
    refine aw_iadd dX10_askedBy_21 ?_
    obtain ⟨h9, h⟩ := h
    refine aw_iald dX10_askedBy_22 (by decide) ce_98 h9 ?_
    exact aw_iret dX10_askedBy_23 rfl rfl h
  · replace h := h.2 z
    refine aw_iconst (v := 0) dX10_askedBy_8 (by decide) ?_
    refine aw_goto (tgt := 23) dX10_askedBy_9 (by decide) ?_
    exact aw_iret dX10_askedBy_23 rfl rfl h
abbrev AX10_wayBy (d : Nat) (Q : Option Int32 → Mem → Prop) (pc : Nat) (L : List (Option Value)) (st : List Value) (M : Mem) : Prop := AW none RX10 cX10_wayBy 4 (some .int) d Q pc L st M
theorem eX10_wayBy {d : Nat} {Q : Option Int32 → Mem → Prop} (M : Mem) (x1 x2 x3 : Int32) (h : AX10_wayBy d Q 0 [lR 77, lI x1, lI x2, lI x3] [] M) : AM d iX10_wayBy [.ref 77, .int x1, .int x2, .int x3] M Q := AM.of2 (by decide) rfl rfl h
theorem bX10_wayBy_0 {d : Nat} {Q : Option Int32 → Mem → Prop} (M : Mem) (x1 x2 x3 : Int32) (h : AMi d iX10_isStep [.ref 77, .int x1, .int x2] M (fun r1 M1 => (r1 = 0 → Q (some 1000000000) M1) ∧ (¬ r1 = 0 → (vp_in x2 16) ∧ (((M1 105 (ix x2)) < 1000000000 → AMi d iX10_askedBy [.ref 77, .int x1, .int x2, .int x3] M1 (fun r2 M2 => (vp_in x2 16) ∧ (Q (some (((32 * r2) + 1) + (M2 105 (ix x2)))) M2))) ∧ (¬ (M1 105 (ix x2)) < 1000000000 → Q (some 1000000000) M1))))) : AX10_wayBy (d + 1) Q 0 [lR 77, lI x1, lI x2, lI x3] [] M := by
  refine aw_aload_n dX10_wayBy_0 rfl rfl ?_
  refine aw_iload_n dX10_wayBy_1 rfl rfl ?_
  refine aw_iload_n dX10_wayBy_2 rfl rfl ?_
  refine aw_callV (mi := iX10_isStep) (av := [.int x1, .int x2]) (st := []) dX10_wayBy_3 ml_X10_301 kX10_isStep (by decide) ce_77 clX10 rfl rfl rfl (Nat.le_of_ble_eq_true rfl) (AM.mono h (fun r9 M1 h => ?_))
  obtain ⟨r1, rfl, h⟩ := h
  refine aw_if_eq (tgt := 21) dX10_wayBy_6 (by decide) (fun z => ?_) (fun z => ?_)
  · replace h := h.1 z
    refine aw_ldcw dX10_wayBy_21 kc_X10_273 ?_
    refine aw_goto (tgt := 46) dX10_wayBy_24 (by decide) ?_
    exact aw_iret dX10_wayBy_46 rfl rfl h
  · replace h := h.2 z
    refine aw_aload_n dX10_wayBy_9 rfl rfl ?_
    refine aw_getf dX10_wayBy_10 fl_X10_92 (by decide) ce_77 rfl (v := .ref 105) rfl ?_
    refine aw_iload_n dX10_wayBy_13 rfl rfl ?_
    obtain ⟨h9, h⟩ := h
    refine aw_iald dX10_wayBy_14 (by decide) ce_105 h9 ?_
    refine aw_ldcw dX10_wayBy_15 kc_X10_273 ?_
    refine aw_icmp_lt (tgt := 27) dX10_wayBy_18 (by decide) (fun z => ?_) (fun z => ?_)
    · replace h := h.1 z
      refine aw_bipush (v := 32) dX10_wayBy_27 (by decide) ?_
      refine aw_aload_n dX10_wayBy_29 rfl rfl ?_
      refine aw_iload_n dX10_wayBy_30 rfl rfl ?_
      refine aw_iload_n dX10_wayBy_31 rfl rfl ?_
      refine aw_iload_n dX10_wayBy_32 rfl rfl ?_
      refine aw_callV (mi := iX10_askedBy) (av := [.int x1, .int x2, .int x3]) (st := [.int 32]) dX10_wayBy_33 ml_X10_351 kX10_askedBy (by decide) ce_77 clX10 rfl rfl rfl (Nat.le_of_ble_eq_true rfl) (AM.mono h (fun r9 M2 h => ?_))
      obtain ⟨r2, rfl, h⟩ := h
      refine aw_imul dX10_wayBy_36 ?_
      refine aw_iconst (v := 1) dX10_wayBy_37 (by decide) ?_
      refine aw_iadd dX10_wayBy_38 ?_
      refine aw_aload_n dX10_wayBy_39 rfl rfl ?_
      refine aw_getf dX10_wayBy_40 fl_X10_92 (by decide) ce_77 rfl (v := .ref 105) rfl ?_
      refine aw_iload_n dX10_wayBy_43 rfl rfl ?_
      obtain ⟨h9, h⟩ := h
      refine aw_iald dX10_wayBy_44 (by decide) ce_105 h9 ?_
      refine aw_iadd dX10_wayBy_45 ?_
      exact aw_iret dX10_wayBy_46 rfl rfl h
    · replace h := h.2 z
      refine aw_ldcw dX10_wayBy_21 kc_X10_273 ?_
      refine aw_goto (tgt := 46) dX10_wayBy_24 (by decide) ?_
      exact aw_iret dX10_wayBy_46 rfl rfl h
abbrev AX10_laysWays (d : Nat) (Q : Option Int32 → Mem → Prop) (pc : Nat) (L : List (Option Value)) (st : List Value) (M : Mem) : Prop := AW none RX10 cX10_laysWays 6 none d Q pc L st M
theorem eX10_laysWays {d : Nat} {Q : Option Int32 → Mem → Prop} (M : Mem) (x1 : Int32) (h : AX10_laysWays d Q 0 [lR 77, lI x1, none, none, none, none] [] M) : AM d iX10_laysWays [.ref 77, .int x1] M Q := AM.of2 (by decide) rfl rfl h
theorem bX10_laysWays_0 {d : Nat} {Q : Option Int32 → Mem → Prop} (M : Mem) (x1 : Int32) (h : AMi d iX10_topOf [.ref 77] M (fun r1 M1 => AX10_laysWays (d + 1) Q 7 [lR 77, lI x1, lI r1, lI 0, none, none] [] M1)) : AX10_laysWays (d + 1) Q 0 [lR 77, lI x1, none, none, none, none] [] M := by
  refine aw_aload_n dX10_laysWays_0 rfl rfl ?_
  refine aw_callV (mi := iX10_topOf) (av := []) (st := []) dX10_laysWays_1 ml_X10_163 kX10_topOf (by decide) ce_77 clX10 rfl rfl rfl (Nat.le_of_ble_eq_true rfl) (AM.mono h (fun r9 M1 h => ?_))
  obtain ⟨r1, rfl, h⟩ := h
  refine aw_istore_n (L2 := [lR 77, lI x1, lI r1, none, none, none]) dX10_laysWays_4 rfl (by decide) rfl ?_
  refine aw_iconst (v := 0) dX10_laysWays_5 (by decide) ?_
  refine aw_istore_n (L2 := [lR 77, lI x1, lI r1, lI 0, none, none]) dX10_laysWays_6 rfl (by decide) rfl ?_
  exact h
theorem bX10_laysWays_7 {d : Nat} {Q : Option Int32 → Mem → Prop} (M : Mem) (x1 x2 x3 : Int32) (h : ((M 77 0) ≤ x3 → AX10_laysWays (d + 1) Q 41 [lR 77, lI x1, lI x2, lI 1, none, none] [] M) ∧ (¬ (M 77 0) ≤ x3 → (¬ x3 = x2 → (vp_in x3 16) ∧ (AX10_laysWays (d + 1) Q 7 [lR 77, lI x1, lI x2, lI (x3 + 1), none, none] [] (wr M 105 (ix x3) 1000000000))) ∧ (x3 = x2 → (vp_in x3 16) ∧ (AX10_laysWays (d + 1) Q 7 [lR 77, lI x1, lI x2, lI (x3 + 1), none, none] [] (wr M 105 (ix x3) 0))))) : AX10_laysWays (d + 1) Q 7 [lR 77, lI x1, lI x2, lI x3, none, none] [] M := by
  refine aw_iload_n dX10_laysWays_7 rfl rfl ?_
  refine aw_aload_n dX10_laysWays_8 rfl rfl ?_
  refine aw_getf dX10_laysWays_9 fl_X10_138 (by decide) ce_77 rfl (v := .int (M 77 0)) rfl ?_
  refine aw_icmp_ge (tgt := 39) dX10_laysWays_12 (by decide) (fun z => ?_) (fun z => ?_)
  · replace h := h.1 z
    refine aw_iconst (v := 1) dX10_laysWays_39 (by decide) ?_
    refine aw_istore_n (L2 := [lR 77, lI x1, lI x2, lI 1, none, none]) dX10_laysWays_40 rfl (by decide) rfl ?_
    exact h
  · replace h := h.2 z
    refine aw_aload_n dX10_laysWays_15 rfl rfl ?_
    refine aw_getf dX10_laysWays_16 fl_X10_92 (by decide) ce_77 rfl (v := .ref 105) rfl ?_
    refine aw_iload_n dX10_laysWays_19 rfl rfl ?_
    refine aw_iload_n dX10_laysWays_20 rfl rfl ?_
    refine aw_iload_n dX10_laysWays_21 rfl rfl ?_
    refine aw_icmp_ne (tgt := 29) dX10_laysWays_22 (by decide) (fun z => ?_) (fun z => ?_)
    · replace h := h.1 z
      refine aw_ldcw dX10_laysWays_29 kc_X10_273 ?_
      obtain ⟨h9, h⟩ := h
      refine aw_iast dX10_laysWays_32 (by decide) ce_105 h9 ?_
      refine aw_iinc (y := 1) (L2 := [lR 77, lI x1, lI x2, lI (x3 + 1), none, none]) dX10_laysWays_33 rfl (by decide) (by decide) rfl ?_
      refine aw_goto (tgt := 7) dX10_laysWays_36 (by decide) ?_
      exact h
    · replace h := h.2 z
      refine aw_iconst (v := 0) dX10_laysWays_25 (by decide) ?_
      refine aw_goto (tgt := 32) dX10_laysWays_26 (by decide) ?_
      obtain ⟨h9, h⟩ := h
      refine aw_iast dX10_laysWays_32 (by decide) ce_105 h9 ?_
      refine aw_iinc (y := 1) (L2 := [lR 77, lI x1, lI x2, lI (x3 + 1), none, none]) dX10_laysWays_33 rfl (by decide) (by decide) rfl ?_
      refine aw_goto (tgt := 7) dX10_laysWays_36 (by decide) ?_
      exact h
theorem bX10_laysWays_41 {d : Nat} {Q : Option Int32 → Mem → Prop} (M : Mem) (x1 x2 x3 : Int32) (h : (x3 = 0 → Q none M) ∧ (¬ x3 = 0 → AX10_laysWays (d + 1) Q 50 [lR 77, lI x1, lI x2, lI 0, lI 0, none] [] M)) : AX10_laysWays (d + 1) Q 41 [lR 77, lI x1, lI x2, lI x3, none, none] [] M := by
  refine aw_iload_n dX10_laysWays_41 rfl rfl ?_
  refine aw_if_eq (tgt := 132) dX10_laysWays_42 (by decide) (fun z => ?_) (fun z => ?_)
  · replace h := h.1 z
    exact aw_vret dX10_laysWays_132 rfl h
  · replace h := h.2 z
    refine aw_iconst (v := 0) dX10_laysWays_45 (by decide) ?_
    refine aw_istore_n (L2 := [lR 77, lI x1, lI x2, lI 0, none, none]) dX10_laysWays_46 rfl (by decide) rfl ?_
    refine aw_iconst (v := 0) dX10_laysWays_47 (by decide) ?_
    refine aw_istore (L2 := [lR 77, lI x1, lI x2, lI 0, lI 0, none]) dX10_laysWays_48 (by decide) rfl ?_
    exact h
theorem bX10_laysWays_50 {d : Nat} {Q : Option Int32 → Mem → Prop} (M : Mem) (x1 x2 x3 x4 : Int32) (h : ((M 77 0) ≤ x4 → AX10_laysWays (d + 1) Q 41 [lR 77, lI x1, lI x2, lI x3, none, none] [] M) ∧ (¬ (M 77 0) ≤ x4 → AX10_laysWays (d + 1) Q 62 [lR 77, lI x1, lI x2, lI x3, lI x4, lI 0] [] M)) : AX10_laysWays (d + 1) Q 50 [lR 77, lI x1, lI x2, lI x3, lI x4, none] [] M := by
  refine aw_iload dX10_laysWays_50 rfl ?_
  refine aw_aload_n dX10_laysWays_52 rfl rfl ?_
  refine aw_getf dX10_laysWays_53 fl_X10_138 (by decide) ce_77 rfl (v := .int (M 77 0)) rfl ?_
  refine aw_icmp_ge (tgt := 129) dX10_laysWays_56 (by decide) (fun z => ?_) (fun z => ?_)
  · replace h := h.1 z
    refine aw_goto (tgt := 41) dX10_laysWays_129 (by decide) ?_
    exact aw_less (less_k (less_k (less_k (less_k (less_d (less_k less_nil)))))) h
  · replace h := h.2 z
    refine aw_iconst (v := 0) dX10_laysWays_59 (by decide) ?_
    refine aw_istore (L2 := [lR 77, lI x1, lI x2, lI x3, lI x4, lI 0]) dX10_laysWays_60 (by decide) rfl ?_
    exact h
theorem bX10_laysWays_62 {d : Nat} {Q : Option Int32 → Mem → Prop} (M : Mem) (x1 x2 x3 x4 x5 : Int32) (h : ((M 77 0) ≤ x5 → AX10_laysWays (d + 1) Q 50 [lR 77, lI x1, lI x2, lI x3, lI (x4 + 1), none] [] M) ∧ (¬ (M 77 0) ≤ x5 → (x4 = x2 → AX10_laysWays (d + 1) Q 62 [lR 77, lI x1, lI x2, lI x3, lI x4, lI (x5 + 1)] [] M) ∧ (¬ x4 = x2 → AMi d iX10_wayBy [.ref 77, .int x4, .int x5, .int x1] M (fun r1 M1 => (vp_in x4 16) ∧ ((r1 < (M1 105 (ix x4)) → AMi d iX10_wayBy [.ref 77, .int x4, .int x5, .int x1] M1 (fun r2 M2 => (vp_in x4 16) ∧ (AX10_laysWays (d + 1) Q 62 [lR 77, lI x1, lI x2, lI 1, lI x4, lI (x5 + 1)] [] (wr M2 105 (ix x4) r2)))) ∧ (¬ r1 < (M1 105 (ix x4)) → AX10_laysWays (d + 1) Q 62 [lR 77, lI x1, lI x2, lI x3, lI x4, lI (x5 + 1)] [] M1)))))) : AX10_laysWays (d + 1) Q 62 [lR 77, lI x1, lI x2, lI x3, lI x4, lI x5] [] M := by
  refine aw_iload dX10_laysWays_62 rfl ?_
  refine aw_aload_n dX10_laysWays_64 rfl rfl ?_
  refine aw_getf dX10_laysWays_65 fl_X10_138 (by decide) ce_77 rfl (v := .int (M 77 0)) rfl ?_
  refine aw_icmp_ge (tgt := 123) dX10_laysWays_68 (by decide) (fun z => ?_) (fun z => ?_)
  · replace h := h.1 z
    refine aw_iinc (y := 1) (L2 := [lR 77, lI x1, lI x2, lI x3, lI (x4 + 1), lI x5]) dX10_laysWays_123 rfl (by decide) (by decide) rfl ?_
    refine aw_goto (tgt := 50) dX10_laysWays_126 (by decide) ?_
    exact aw_less (less_k (less_k (less_k (less_k (less_k (less_d less_nil)))))) h
  · replace h := h.2 z
    refine aw_iload dX10_laysWays_71 rfl ?_
    refine aw_iload_n dX10_laysWays_73 rfl rfl ?_
    refine aw_icmp_eq (tgt := 117) dX10_laysWays_74 (by decide) (fun z => ?_) (fun z => ?_)
    · replace h := h.1 z
      refine aw_iinc (y := 1) (L2 := [lR 77, lI x1, lI x2, lI x3, lI x4, lI (x5 + 1)]) dX10_laysWays_117 rfl (by decide) (by decide) rfl ?_
      refine aw_goto (tgt := 62) dX10_laysWays_120 (by decide) ?_
      exact h
    · replace h := h.2 z
      refine aw_aload_n dX10_laysWays_77 rfl rfl ?_
      refine aw_iload dX10_laysWays_78 rfl ?_
      refine aw_iload dX10_laysWays_80 rfl ?_
      refine aw_iload_n dX10_laysWays_82 rfl rfl ?_
      refine aw_callV (mi := iX10_wayBy) (av := [.int x4, .int x5, .int x1]) (st := []) dX10_laysWays_83 ml_X10_354 kX10_wayBy (by decide) ce_77 clX10 rfl rfl rfl (Nat.le_of_ble_eq_true rfl) (AM.mono h (fun r9 M1 h => ?_))
      obtain ⟨r1, rfl, h⟩ := h
      refine aw_aload_n dX10_laysWays_86 rfl rfl ?_
      refine aw_getf dX10_laysWays_87 fl_X10_92 (by decide) ce_77 rfl (v := .ref 105) rfl ?_
      refine aw_iload dX10_laysWays_90 rfl ?_
      obtain ⟨h9, h⟩ := h
      refine aw_iald dX10_laysWays_92 (by decide) ce_105 h9 ?_
      refine aw_icmp_lt (tgt := 99) dX10_laysWays_93 (by decide) (fun z => ?_) (fun z => ?_)
      · replace h := h.1 z
        refine aw_aload_n dX10_laysWays_99 rfl rfl ?_
        refine aw_getf dX10_laysWays_100 fl_X10_92 (by decide) ce_77 rfl (v := .ref 105) rfl ?_
        refine aw_iload dX10_laysWays_103 rfl ?_
        refine aw_aload_n dX10_laysWays_105 rfl rfl ?_
        refine aw_iload dX10_laysWays_106 rfl ?_
        refine aw_iload dX10_laysWays_108 rfl ?_
        refine aw_iload_n dX10_laysWays_110 rfl rfl ?_
        refine aw_callV (mi := iX10_wayBy) (av := [.int x4, .int x5, .int x1]) (st := [.int x4, .ref 105]) dX10_laysWays_111 ml_X10_354 kX10_wayBy (by decide) ce_77 clX10 rfl rfl rfl (Nat.le_of_ble_eq_true rfl) (AM.mono h (fun r9 M2 h => ?_))
        obtain ⟨r2, rfl, h⟩ := h
        obtain ⟨h9, h⟩ := h
        refine aw_iast dX10_laysWays_114 (by decide) ce_105 h9 ?_
        refine aw_iconst (v := 1) dX10_laysWays_115 (by decide) ?_
        refine aw_istore_n (L2 := [lR 77, lI x1, lI x2, lI 1, lI x4, lI x5]) dX10_laysWays_116 rfl (by decide) rfl ?_
        refine aw_iinc (y := 1) (L2 := [lR 77, lI x1, lI x2, lI 1, lI x4, lI (x5 + 1)]) dX10_laysWays_117 rfl (by decide) (by decide) rfl ?_
        refine aw_goto (tgt := 62) dX10_laysWays_120 (by decide) ?_
        exact h
      · replace h := h.2 z
        refine aw_goto (tgt := 117) dX10_laysWays_96 (by decide) ?_
        refine aw_iinc (y := 1) (L2 := [lR 77, lI x1, lI x2, lI x3, lI x4, lI (x5 + 1)]) dX10_laysWays_117 rfl (by decide) (by decide) rfl ?_
        refine aw_goto (tgt := 62) dX10_laysWays_120 (by decide) ?_
        exact h
abbrev AX10_chain (d : Nat) (Q : Option Int32 → Mem → Prop) (pc : Nat) (L : List (Option Value)) (st : List Value) (M : Mem) : Prop := AW none RX10 cX10_chain 7 (some .int) d Q pc L st M
theorem eX10_chain {d : Nat} {Q : Option Int32 → Mem → Prop} (M : Mem) (x1 x2 : Int32) (h : AX10_chain d Q 0 [lR 77, lI x1, lI x2, none, none, none, none] [] M) : AM d iX10_chain [.ref 77, .int x1, .int x2] M Q := AM.of2 (by decide) rfl rfl h
theorem bX10_chain_0 {d : Nat} {Q : Option Int32 → Mem → Prop} (M : Mem) (x1 x2 : Int32) (h : ((isPV (M 77 34) x1) = 0 → Q (some (-3)) M) ∧ (¬ (isPV (M 77 34) x1) = 0 → (¬ (inV x2 (-1) 16) = 0 → (vp_in x1 12) ∧ ((¬ (hasV (M 77 1) (M 99 (ix x1))) = 0 → AMv d iX10_laysSteps [.ref 77, .int 0] M (fun M1 => (vp_in x1 12) ∧ (AMv d iX10_laysWays [.ref 77, .int (M1 101 (ix x1))] M1 (fun M2 => (vp_in (M 99 (ix x1)) 16) ∧ (((M2 105 (ix (M 99 (ix x1)))) < 1000000000 → (vp_in (M 99 (ix x1)) 16) ∧ ((¬ x2 = (-1) → (¬ x2 = 16 → (x2 < (((M2 105 (ix (M 99 (ix x1)))) - (M2 105 (ix (M 99 (ix x1)))) / 32 * 32) + 1) → AX10_chain (d + 1) Q 121 [lR 77, lI x1, lI x2, lI (M 99 (ix x1)), none, lI 0, none] [] M2) ∧ (¬ x2 < (((M2 105 (ix (M 99 (ix x1)))) - (M2 105 (ix (M 99 (ix x1)))) / 32 * 32) + 1) → Q (some (-3)) M2)) ∧ (x2 = 16 → Q (some (((M2 105 (ix (M 99 (ix x1)))) - (M2 105 (ix (M 99 (ix x1)))) / 32 * 32) + 1)) M2)) ∧ (x2 = (-1) → (vp_in (M 99 (ix x1)) 16) ∧ (Q (some ((M2 105 (ix (M 99 (ix x1)))) / 32)) M2)))) ∧ (¬ (M2 105 (ix (M 99 (ix x1)))) < 1000000000 → Q (some (-2)) M2)))))) ∧ ((hasV (M 77 1) (M 99 (ix x1))) = 0 → Q (some (-2)) M))) ∧ ((inV x2 (-1) 16) = 0 → Q (some (-3)) M))) : AX10_chain (d + 1) Q 0 [lR 77, lI x1, lI x2, none, none, none, none] [] M := by
  refine aw_aload_n dX10_chain_0 rfl rfl ?_
  refine aw_iload_n dX10_chain_1 rfl rfl ?_
  refine aw_callV (mi := iX10_isOath) (av := [.int x1]) (st := []) dX10_chain_2 ml_X10_292 kX10_isOath (by decide) ce_77 clX10 rfl rfl rfl (Nat.le_of_ble_eq_true rfl) (AM.mono (p_X10_isOath _) (fun r9 M9 e9 => ?_))
  obtain ⟨rfl, rfl⟩ := e9
  refine aw_if_eq (tgt := 18) dX10_chain_5 (by decide) (fun z => ?_) (fun z => ?_)
  · replace h := h.1 z
    refine aw_bipush (v := (-3)) dX10_chain_18 (by decide) ?_
    exact aw_iret dX10_chain_20 rfl rfl h
  · replace h := h.2 z
    refine aw_iload_n dX10_chain_8 rfl rfl ?_
    refine aw_iconst (v := (-1)) dX10_chain_9 (by decide) ?_
    refine aw_bipush (v := 16) dX10_chain_10 (by decide) ?_
    refine aw_callS (mi := iX10_in) (av := [.int x2, .int (-1), .int 16]) (st := []) dX10_chain_12 ml_X10_152 kX10_in rfl rfl (Nat.le_of_ble_eq_true rfl) (AM.mono (p_X10_in _ _ _) (fun r9 M9 e9 => ?_))
    obtain ⟨rfl, rfl⟩ := e9
    refine aw_if_ne (tgt := 21) dX10_chain_15 (by decide) (fun z => ?_) (fun z => ?_)
    · replace h := h.1 z
      refine aw_aload_n dX10_chain_21 rfl rfl ?_
      refine aw_getf dX10_chain_22 fl_X10_74 (by decide) ce_77 rfl (v := .ref 99) rfl ?_
      refine aw_iload_n dX10_chain_25 rfl rfl ?_
      obtain ⟨h9, h⟩ := h
      refine aw_iald dX10_chain_26 (by decide) ce_99 h9 ?_
      refine aw_istore_n (L2 := [lR 77, lI x1, lI x2, lI (M 99 (ix x1)), none, none, none]) dX10_chain_27 rfl (by decide) rfl ?_
      refine aw_aload_n dX10_chain_28 rfl rfl ?_
      refine aw_getf dX10_chain_29 fl_X10_145 (by decide) ce_77 rfl (v := .int (M 77 1)) rfl ?_
      refine aw_iload_n dX10_chain_32 rfl rfl ?_
      refine aw_callS (mi := iX10_has) (av := [.int (M 77 1), .int (M 99 (ix x1))]) (st := []) dX10_chain_33 ml_X10_148 kX10_has rfl rfl (Nat.le_of_ble_eq_true rfl) (AM.mono (p_X10_has _ _) (fun r9 M9 e9 => ?_))
      obtain ⟨rfl, rfl⟩ := e9
      refine aw_if_ne (tgt := 42) dX10_chain_36 (by decide) (fun z => ?_) (fun z => ?_)
      · replace h := h.1 z
        refine aw_aload_n dX10_chain_42 rfl rfl ?_
        refine aw_iconst (v := 0) dX10_chain_43 (by decide) ?_
        refine aw_callV (mi := iX10_laysSteps) (av := [.int 0]) (st := []) dX10_chain_44 ml_X10_295 kX10_laysSteps (by decide) ce_77 clX10 rfl rfl rfl (Nat.le_of_ble_eq_true rfl) (AM.mono h (fun r9 M1 h => ?_))
        obtain ⟨rfl, h⟩ := h
        refine aw_aload_n dX10_chain_47 rfl rfl ?_
        refine aw_aload_n dX10_chain_48 rfl rfl ?_
        refine aw_getf dX10_chain_49 fl_X10_80 (by decide) ce_77 rfl (v := .ref 101) rfl ?_
        refine aw_iload_n dX10_chain_52 rfl rfl ?_
        obtain ⟨h9, h⟩ := h
        refine aw_iald dX10_chain_53 (by decide) ce_101 h9 ?_
        refine aw_callV (mi := iX10_laysWays) (av := [.int (M1 101 (ix x1))]) (st := []) dX10_chain_54 ml_X10_357 kX10_laysWays (by decide) ce_77 clX10 rfl rfl rfl (Nat.le_of_ble_eq_true rfl) (AM.mono h (fun r9 M2 h => ?_))
        obtain ⟨rfl, h⟩ := h
        refine aw_aload_n dX10_chain_57 rfl rfl ?_
        refine aw_getf dX10_chain_58 fl_X10_92 (by decide) ce_77 rfl (v := .ref 105) rfl ?_
        refine aw_iload_n dX10_chain_61 rfl rfl ?_
        obtain ⟨h9, h⟩ := h
        refine aw_iald dX10_chain_62 (by decide) ce_105 h9 ?_
        refine aw_ldcw dX10_chain_63 kc_X10_273 ?_
        refine aw_icmp_lt (tgt := 72) dX10_chain_66 (by decide) (fun z => ?_) (fun z => ?_)
        · replace h := h.1 z
          refine aw_aload_n dX10_chain_72 rfl rfl ?_
          refine aw_getf dX10_chain_73 fl_X10_92 (by decide) ce_77 rfl (v := .ref 105) rfl ?_
          refine aw_iload_n dX10_chain_76 rfl rfl ?_
          obtain ⟨h9, h⟩ := h
          refine aw_iald dX10_chain_77 (by decide) ce_105 h9 ?_
          refine aw_bipush (v := 32) dX10_chain_78 (by decide) ?_
          refine aw_irem dX10_chain_80 (by decide) ?_
          refine aw_iconst (v := 1) dX10_chain_81 (by decide) ?_
          refine aw_iadd dX10_chain_82 ?_
          refine aw_istore (L2 := [lR 77, lI x1, lI x2, lI (M 99 (ix x1)), lI (((M2 105 (ix (M 99 (ix x1)))) - (M2 105 (ix (M 99 (ix x1)))) / 32 * 32) + 1), none, none]) dX10_chain_83 (by decide) rfl ?_
          refine aw_iload_n dX10_chain_85 rfl rfl ?_
          refine aw_iconst (v := (-1)) dX10_chain_86 (by decide) ?_
          refine aw_icmp_ne (tgt := 100) dX10_chain_87 (by decide) (fun z => ?_) (fun z => ?_)
          · replace h := h.1 z
            refine aw_iload_n dX10_chain_100 rfl rfl ?_
            refine aw_bipush (v := 16) dX10_chain_101 (by decide) ?_
            refine aw_icmp_ne (tgt := 109) dX10_chain_103 (by decide) (fun z => ?_) (fun z => ?_)
            · replace h := h.1 z
              refine aw_iload_n dX10_chain_109 rfl rfl ?_
              refine aw_iload dX10_chain_110 rfl ?_
              refine aw_icmp_lt (tgt := 118) dX10_chain_112 (by decide) (fun z => ?_) (fun z => ?_)
              · replace h := h.1 z
                refine aw_iconst (v := 0) dX10_chain_118 (by decide) ?_
                refine aw_istore (L2 := [lR 77, lI x1, lI x2, lI (M 99 (ix x1)), lI (((M2 105 (ix (M 99 (ix x1)))) - (M2 105 (ix (M 99 (ix x1)))) / 32 * 32) + 1), lI 0, none]) dX10_chain_119 (by decide) rfl ?_
                exact aw_less (less_k (less_k (less_k (less_k (less_d (less_k (less_k less_nil))))))) h
              · replace h := h.2 z
                refine aw_bipush (v := (-3)) dX10_chain_115 (by decide) ?_
                exact aw_iret dX10_chain_117 rfl rfl h
            · replace h := h.2 z
              refine aw_iload dX10_chain_106 rfl ?_
              exact aw_iret dX10_chain_108 rfl rfl h
          · replace h := h.2 z
            refine aw_aload_n dX10_chain_90 rfl rfl ?_
            refine aw_getf dX10_chain_91 fl_X10_92 (by decide) ce_77 rfl (v := .ref 105) rfl ?_
            refine aw_iload_n dX10_chain_94 rfl rfl ?_
            obtain ⟨h9, h⟩ := h
            refine aw_iald dX10_chain_95 (by decide) ce_105 h9 ?_
            refine aw_bipush (v := 32) dX10_chain_96 (by decide) ?_
            refine aw_idiv dX10_chain_98 (by decide) ?_
            exact aw_iret dX10_chain_99 rfl rfl h
        · replace h := h.2 z
          refine aw_bipush (v := (-2)) dX10_chain_69 (by decide) ?_
          exact aw_iret dX10_chain_71 rfl rfl h
      · replace h := h.2 z
        refine aw_bipush (v := (-2)) dX10_chain_39 (by decide) ?_
        exact aw_iret dX10_chain_41 rfl rfl h
    · replace h := h.2 z
      refine aw_bipush (v := (-3)) dX10_chain_18 (by decide) ?_
      exact aw_iret dX10_chain_20 rfl rfl h
theorem bX10_chain_121 {d : Nat} {Q : Option Int32 → Mem → Prop} (M : Mem) (x1 x2 x3 x5 : Int32) (h : (x2 ≤ x5 → Q (some x3) M) ∧ (¬ x2 ≤ x5 → AX10_chain (d + 1) Q 130 [lR 77, lI x1, lI x2, lI x3, none, lI x5, lI 0] [] M)) : AX10_chain (d + 1) Q 121 [lR 77, lI x1, lI x2, lI x3, none, lI x5, none] [] M := by
  refine aw_iload dX10_chain_121 rfl ?_
  refine aw_iload_n dX10_chain_123 rfl rfl ?_
  refine aw_icmp_ge (tgt := 170) dX10_chain_124 (by decide) (fun z => ?_) (fun z => ?_)
  · replace h := h.1 z
    refine aw_iload_n dX10_chain_170 rfl rfl ?_
    exact aw_iret dX10_chain_171 rfl rfl h
  · replace h := h.2 z
    refine aw_iconst (v := 0) dX10_chain_127 (by decide) ?_
    refine aw_istore (L2 := [lR 77, lI x1, lI x2, lI x3, none, lI x5, lI 0]) dX10_chain_128 (by decide) rfl ?_
    exact h
theorem bX10_chain_130 {d : Nat} {Q : Option Int32 → Mem → Prop} (M : Mem) (x1 x2 x3 x5 x6 : Int32) (h : (vp_in x1 12) ∧ (AMi d iX10_wayBy [.ref 77, .int x3, .int x6, .int (M 101 (ix x1))] M (fun r1 M1 => (vp_in x3 16) ∧ ((r1 = (M1 105 (ix x3)) → AX10_chain (d + 1) Q 121 [lR 77, lI x1, lI x2, lI x6, none, lI (x5 + 1), none] [] M1) ∧ (¬ r1 = (M1 105 (ix x3)) → AX10_chain (d + 1) Q 130 [lR 77, lI x1, lI x2, lI x3, none, lI x5, lI (x6 + 1)] [] M1))))) : AX10_chain (d + 1) Q 130 [lR 77, lI x1, lI x2, lI x3, none, lI x5, lI x6] [] M := by
  refine aw_aload_n dX10_chain_130 rfl rfl ?_
  refine aw_iload_n dX10_chain_131 rfl rfl ?_
  refine aw_iload dX10_chain_132 rfl ?_
  refine aw_aload_n dX10_chain_134 rfl rfl ?_
  refine aw_getf dX10_chain_135 fl_X10_80 (by decide) ce_77 rfl (v := .ref 101) rfl ?_
  refine aw_iload_n dX10_chain_138 rfl rfl ?_
  obtain ⟨h9, h⟩ := h
  refine aw_iald dX10_chain_139 (by decide) ce_101 h9 ?_
  refine aw_callV (mi := iX10_wayBy) (av := [.int x3, .int x6, .int (M 101 (ix x1))]) (st := []) dX10_chain_140 ml_X10_354 kX10_wayBy (by decide) ce_77 clX10 rfl rfl rfl (Nat.le_of_ble_eq_true rfl) (AM.mono h (fun r9 M1 h => ?_))
  obtain ⟨r1, rfl, h⟩ := h
  refine aw_aload_n dX10_chain_143 rfl rfl ?_
  refine aw_getf dX10_chain_144 fl_X10_92 (by decide) ce_77 rfl (v := .ref 105) rfl ?_
  refine aw_iload_n dX10_chain_147 rfl rfl ?_
  obtain ⟨h9, h⟩ := h
  refine aw_iald dX10_chain_148 (by decide) ce_105 h9 ?_
  refine aw_icmp_eq (tgt := 161) dX10_chain_149 (by decide) (fun z => ?_) (fun z => ?_)
  · replace h := h.1 z
    refine aw_iload dX10_chain_161 rfl ?_
    refine aw_istore_n (L2 := [lR 77, lI x1, lI x2, lI x6, none, lI x5, lI x6]) dX10_chain_163 rfl (by decide) rfl ?_
    refine aw_iinc (y := 1) (L2 := [lR 77, lI x1, lI x2, lI x6, none, lI (x5 + 1), lI x6]) dX10_chain_164 rfl (by decide) (by decide) rfl ?_
    refine aw_goto (tgt := 121) dX10_chain_167 (by decide) ?_
    exact aw_less (less_k (less_k (less_k (less_k (less_k (less_k (less_d less_nil))))))) h
  · replace h := h.2 z
    refine aw_iload dX10_chain_152 rfl ?_
    refine aw_iconst (v := 1) dX10_chain_154 (by decide) ?_
    refine aw_iadd dX10_chain_155 ?_
    refine aw_istore (L2 := [lR 77, lI x1, lI x2, lI x3, none, lI x5, lI (x6 + 1)]) dX10_chain_156 (by decide) rfl ?_
    refine aw_goto (tgt := 130) dX10_chain_158 (by decide) ?_
    exact h
abbrev AX10_isSafe (d : Nat) (Q : Option Int32 → Mem → Prop) (pc : Nat) (L : List (Option Value)) (st : List Value) (M : Mem) : Prop := AW none RX10 cX10_isSafe 9 (some .boolean) d Q pc L st M
theorem eX10_isSafe {d : Nat} {Q : Option Int32 → Mem → Prop} (M : Mem) (x1 x2 x3 : Int32) (h : AX10_isSafe d Q 0 [lR 77, lI x1, lI x2, lI x3, none, none, none, none, none] [] M) : AM d iX10_isSafe [.ref 77, .int x1, .int x2, .int x3] M Q := AM.of2 (by decide) rfl rfl h
theorem bX10_isSafe_0 {d : Nat} {Q : Option Int32 → Mem → Prop} (M : Mem) (x1 x2 x3 : Int32) (h : AMi d iX10_topOf [.ref 77] M (fun r1 M1 => (r1 = (-1) → AX10_isSafe (d + 1) Q 32 [lR 77, lI x1, lI x2, lI x3, lI (x2 &&& (((1 : Int32) <<< (x1 &&& 31)) ^^^ (-1))), none, none, none, none] [] M1) ∧ (¬ r1 = (-1) → AX10_isSafe (d + 1) Q 32 [lR 77, lI x1, lI x2, lI x3, lI ((x2 &&& (((1 : Int32) <<< (x1 &&& 31)) ^^^ (-1))) &&& (((1 : Int32) <<< (r1 &&& 31)) ^^^ (-1))), none, none, none, none] [] M1))) : AX10_isSafe (d + 1) Q 0 [lR 77, lI x1, lI x2, lI x3, none, none, none, none, none] [] M := by
  refine aw_iload_n dX10_isSafe_0 rfl rfl ?_
  refine aw_iconst (v := 1) dX10_isSafe_1 (by decide) ?_
  refine aw_iload_n dX10_isSafe_2 rfl rfl ?_
  refine aw_ishl dX10_isSafe_3 ?_
  refine aw_iconst (v := (-1)) dX10_isSafe_4 (by decide) ?_
  refine aw_ixor dX10_isSafe_5 ?_
  refine aw_iand dX10_isSafe_6 ?_
  refine aw_istore (L2 := [lR 77, lI x1, lI x2, lI x3, lI (x2 &&& (((1 : Int32) <<< (x1 &&& 31)) ^^^ (-1))), none, none, none, none]) dX10_isSafe_7 (by decide) rfl ?_
  refine aw_aload_n dX10_isSafe_9 rfl rfl ?_
  refine aw_callV (mi := iX10_topOf) (av := []) (st := []) dX10_isSafe_10 ml_X10_163 kX10_topOf (by decide) ce_77 clX10 rfl rfl rfl (Nat.le_of_ble_eq_true rfl) (AM.mono h (fun r9 M1 h => ?_))
  obtain ⟨r1, rfl, h⟩ := h
  refine aw_istore (L2 := [lR 77, lI x1, lI x2, lI x3, lI (x2 &&& (((1 : Int32) <<< (x1 &&& 31)) ^^^ (-1))), lI r1, none, none, none]) dX10_isSafe_13 (by decide) rfl ?_
  refine aw_iload dX10_isSafe_15 rfl ?_
  refine aw_iconst (v := (-1)) dX10_isSafe_17 (by decide) ?_
  refine aw_icmp_eq (tgt := 32) dX10_isSafe_18 (by decide) (fun z => ?_) (fun z => ?_)
  · replace h := h.1 z
    exact aw_less (less_k (less_k (less_k (less_k (less_k (less_d (less_k (less_k (less_k less_nil))))))))) h
  · replace h := h.2 z
    refine aw_iload dX10_isSafe_21 rfl ?_
    refine aw_iconst (v := 1) dX10_isSafe_23 (by decide) ?_
    refine aw_iload dX10_isSafe_24 rfl ?_
    refine aw_ishl dX10_isSafe_26 ?_
    refine aw_iconst (v := (-1)) dX10_isSafe_27 (by decide) ?_
    refine aw_ixor dX10_isSafe_28 ?_
    refine aw_iand dX10_isSafe_29 ?_
    refine aw_istore (L2 := [lR 77, lI x1, lI x2, lI x3, lI ((x2 &&& (((1 : Int32) <<< (x1 &&& 31)) ^^^ (-1))) &&& (((1 : Int32) <<< (r1 &&& 31)) ^^^ (-1))), lI r1, none, none, none]) dX10_isSafe_30 (by decide) rfl ?_
    exact aw_less (less_k (less_k (less_k (less_k (less_k (less_d (less_k (less_k (less_k less_nil))))))))) h
theorem bX10_isSafe_32 {d : Nat} {Q : Option Int32 → Mem → Prop} (M : Mem) (x1 x2 x3 x4 : Int32) (h : (¬ (minV x3 (bitsV x4)) = 0 → AX10_isSafe (d + 1) Q 58 [lR 77, lI x1, lI x2, none, lI x4, none, lI (minV x3 (bitsV x4)), lI 0, none] [] M) ∧ ((minV x3 (bitsV x4)) = 0 → AMi d iX10_holdsBy [.ref 77, .int x1, .int x2] M (fun r1 M1 => (r1 = 0 ∨ r1 = 1) ∧ Q (some r1) M1))) : AX10_isSafe (d + 1) Q 32 [lR 77, lI x1, lI x2, lI x3, lI x4, none, none, none, none] [] M := by
  refine aw_iload_n dX10_isSafe_32 rfl rfl ?_
  refine aw_iload dX10_isSafe_33 rfl ?_
  refine aw_callS (mi := iX10_bits) (av := [.int x4]) (st := [.int x3]) dX10_isSafe_35 ml_X10_313 kX10_bits rfl rfl (Nat.le_of_ble_eq_true rfl) (AM.mono (p_X10_bits _) (fun r9 M9 e9 => ?_))
  obtain ⟨rfl, rfl⟩ := e9
  refine aw_callS (mi := iX10_min) (av := [.int x3, .int (bitsV x4)]) (st := []) dX10_isSafe_38 ml_X10_289 kX10_min rfl rfl (Nat.le_of_ble_eq_true rfl) (AM.mono (p_X10_min _ _) (fun r9 M9 e9 => ?_))
  obtain ⟨rfl, rfl⟩ := e9
  refine aw_istore (L2 := [lR 77, lI x1, lI x2, lI x3, lI x4, none, lI (minV x3 (bitsV x4)), none, none]) dX10_isSafe_41 (by decide) rfl ?_
  refine aw_iload dX10_isSafe_43 rfl ?_
  refine aw_if_ne (tgt := 55) dX10_isSafe_45 (by decide) (fun z => ?_) (fun z => ?_)
  · replace h := h.1 z
    refine aw_iconst (v := 0) dX10_isSafe_55 (by decide) ?_
    refine aw_istore (L2 := [lR 77, lI x1, lI x2, lI x3, lI x4, none, lI (minV x3 (bitsV x4)), lI 0, none]) dX10_isSafe_56 (by decide) rfl ?_
    exact aw_less (less_k (less_k (less_k (less_d (less_k (less_k (less_k (less_k (less_k less_nil))))))))) h
  · replace h := h.2 z
    refine aw_aload_n dX10_isSafe_48 rfl rfl ?_
    refine aw_iload_n dX10_isSafe_49 rfl rfl ?_
    refine aw_iload_n dX10_isSafe_50 rfl rfl ?_
    refine aw_callV (mi := iX10_holdsBy) (av := [.int x1, .int x2]) (st := []) dX10_isSafe_51 ml_X10_307 kX10_holdsBy (by decide) ce_77 clX10 rfl rfl rfl (Nat.le_of_ble_eq_true rfl) (AM.mono h (fun r9 M1 h => ?_))
    obtain ⟨r1, rfl, h⟩ := h
    exact aw_iret dX10_isSafe_54 rfl (nar_b h.1) h.2
theorem bX10_isSafe_58 {d : Nat} {Q : Option Int32 → Mem → Prop} (M : Mem) (x1 x2 x4 x6 x7 : Int32) (h : ((M 77 0) ≤ x7 → Q (some 1) M) ∧ (¬ (M 77 0) ≤ x7 → (¬ (hasV x4 x7) = 0 → (¬ x6 = 1 → AX10_isSafe (d + 1) Q 110 [lR 77, lI x1, lI x2, none, lI x4, none, lI x6, lI x7, lI (x7 + 1)] [] M) ∧ (x6 = 1 → AMi d iX10_holdsBy [.ref 77, .int x1, .int (x2 &&& (((1 : Int32) <<< (x7 &&& 31)) ^^^ (-1)))] M (fun r1 M1 => (¬ r1 = 0 → AX10_isSafe (d + 1) Q 110 [lR 77, lI x1, lI x2, none, lI x4, none, lI x6, lI x7, lI (x7 + 1)] [] M1) ∧ (r1 = 0 → Q (some 0) M1)))) ∧ ((hasV x4 x7) = 0 → AX10_isSafe (d + 1) Q 58 [lR 77, lI x1, lI x2, none, lI x4, none, lI x6, lI (x7 + 1), none] [] M))) : AX10_isSafe (d + 1) Q 58 [lR 77, lI x1, lI x2, none, lI x4, none, lI x6, lI x7, none] [] M := by
  refine aw_iload dX10_isSafe_58 rfl ?_
  refine aw_aload_n dX10_isSafe_60 rfl rfl ?_
  refine aw_getf dX10_isSafe_61 fl_X10_138 (by decide) ce_77 rfl (v := .int (M 77 0)) rfl ?_
  refine aw_icmp_ge (tgt := 172) dX10_isSafe_64 (by decide) (fun z => ?_) (fun z => ?_)
  · replace h := h.1 z
    refine aw_iconst (v := 1) dX10_isSafe_172 (by decide) ?_
    exact aw_iret dX10_isSafe_173 rfl (nar_b (by decide)) h
  · replace h := h.2 z
    refine aw_iload dX10_isSafe_67 rfl ?_
    refine aw_iload dX10_isSafe_69 rfl ?_
    refine aw_callS (mi := iX10_has) (av := [.int x4, .int x7]) (st := []) dX10_isSafe_71 ml_X10_148 kX10_has rfl rfl (Nat.le_of_ble_eq_true rfl) (AM.mono (p_X10_has _ _) (fun r9 M9 e9 => ?_))
    obtain ⟨rfl, rfl⟩ := e9
    refine aw_if_ne (tgt := 80) dX10_isSafe_74 (by decide) (fun z => ?_) (fun z => ?_)
    · replace h := h.1 z
      refine aw_iload dX10_isSafe_80 rfl ?_
      refine aw_iconst (v := 1) dX10_isSafe_82 (by decide) ?_
      refine aw_icmp_ne (tgt := 104) dX10_isSafe_83 (by decide) (fun z => ?_) (fun z => ?_)
      · replace h := h.1 z
        refine aw_iload dX10_isSafe_104 rfl ?_
        refine aw_iconst (v := 1) dX10_isSafe_106 (by decide) ?_
        refine aw_iadd dX10_isSafe_107 ?_
        refine aw_istore (L2 := [lR 77, lI x1, lI x2, none, lI x4, none, lI x6, lI x7, lI (x7 + 1)]) dX10_isSafe_108 (by decide) rfl ?_
        exact h
      · replace h := h.2 z
        refine aw_aload_n dX10_isSafe_86 rfl rfl ?_
        refine aw_iload_n dX10_isSafe_87 rfl rfl ?_
        refine aw_iload_n dX10_isSafe_88 rfl rfl ?_
        refine aw_iconst (v := 1) dX10_isSafe_89 (by decide) ?_
        refine aw_iload dX10_isSafe_90 rfl ?_
        refine aw_ishl dX10_isSafe_92 ?_
        refine aw_iconst (v := (-1)) dX10_isSafe_93 (by decide) ?_
        refine aw_ixor dX10_isSafe_94 ?_
        refine aw_iand dX10_isSafe_95 ?_
        refine aw_callV (mi := iX10_holdsBy) (av := [.int x1, .int (x2 &&& (((1 : Int32) <<< (x7 &&& 31)) ^^^ (-1)))]) (st := []) dX10_isSafe_96 ml_X10_307 kX10_holdsBy (by decide) ce_77 clX10 rfl rfl rfl (Nat.le_of_ble_eq_true rfl) (AM.mono h (fun r9 M1 h => ?_))
        obtain ⟨r1, rfl, h⟩ := h
        refine aw_if_ne (tgt := 104) dX10_isSafe_99 (by decide) (fun z => ?_) (fun z => ?_)
        · replace h := h.1 z
          refine aw_iload dX10_isSafe_104 rfl ?_
          refine aw_iconst (v := 1) dX10_isSafe_106 (by decide) ?_
          refine aw_iadd dX10_isSafe_107 ?_
          refine aw_istore (L2 := [lR 77, lI x1, lI x2, none, lI x4, none, lI x6, lI x7, lI (x7 + 1)]) dX10_isSafe_108 (by decide) rfl ?_
          exact h
        · replace h := h.2 z
          refine aw_iconst (v := 0) dX10_isSafe_102 (by decide) ?_
          exact aw_iret dX10_isSafe_103 rfl (nar_b (by decide)) h
    · replace h := h.2 z
      refine aw_goto (tgt := 166) dX10_isSafe_77 (by decide) ?_
      refine aw_iinc (y := 1) (L2 := [lR 77, lI x1, lI x2, none, lI x4, none, lI x6, lI (x7 + 1), none]) dX10_isSafe_166 rfl (by decide) (by decide) rfl ?_
      refine aw_goto (tgt := 58) dX10_isSafe_169 (by decide) ?_
      exact h
theorem bX10_isSafe_110 {d : Nat} {Q : Option Int32 → Mem → Prop} (M : Mem) (x1 x2 x4 x6 x7 x8 : Int32) (h : ((M 77 0) ≤ x8 → AX10_isSafe (d + 1) Q 58 [lR 77, lI x1, lI x2, none, lI x4, none, lI x6, lI (x7 + 1), none] [] M) ∧ (¬ (M 77 0) ≤ x8 → (¬ x6 = 2 → AX10_isSafe (d + 1) Q 58 [lR 77, lI x1, lI x2, none, lI x4, none, lI x6, lI (x7 + 1), none] [] M) ∧ (x6 = 2 → ((hasV x4 x8) = 0 → AX10_isSafe (d + 1) Q 110 [lR 77, lI x1, lI x2, none, lI x4, none, lI x6, lI x7, lI (x8 + 1)] [] M) ∧ (¬ (hasV x4 x8) = 0 → AMi d iX10_holdsBy [.ref 77, .int x1, .int ((x2 &&& (((1 : Int32) <<< (x7 &&& 31)) ^^^ (-1))) &&& (((1 : Int32) <<< (x8 &&& 31)) ^^^ (-1)))] M (fun r1 M1 => (¬ r1 = 0 → AX10_isSafe (d + 1) Q 110 [lR 77, lI x1, lI x2, none, lI x4, none, lI x6, lI x7, lI (x8 + 1)] [] M1) ∧ (r1 = 0 → Q (some 0) M1)))))) : AX10_isSafe (d + 1) Q 110 [lR 77, lI x1, lI x2, none, lI x4, none, lI x6, lI x7, lI x8] [] M := by
  refine aw_iload dX10_isSafe_110 rfl ?_
  refine aw_aload_n dX10_isSafe_112 rfl rfl ?_
  refine aw_getf dX10_isSafe_113 fl_X10_138 (by decide) ce_77 rfl (v := .int (M 77 0)) rfl ?_
  refine aw_icmp_ge (tgt := 166) dX10_isSafe_116 (by decide) (fun z => ?_) (fun z => ?_)
  · replace h := h.1 z
    refine aw_iinc (y := 1) (L2 := [lR 77, lI x1, lI x2, none, lI x4, none, lI x6, lI (x7 + 1), lI x8]) dX10_isSafe_166 rfl (by decide) (by decide) rfl ?_
    refine aw_goto (tgt := 58) dX10_isSafe_169 (by decide) ?_
    exact aw_less (less_k (less_k (less_k (less_k (less_k (less_k (less_k (less_k (less_d less_nil))))))))) h
  · replace h := h.2 z
    refine aw_iload dX10_isSafe_119 rfl ?_
    refine aw_iconst (v := 2) dX10_isSafe_121 (by decide) ?_
    refine aw_icmp_ne (tgt := 166) dX10_isSafe_122 (by decide) (fun z => ?_) (fun z => ?_)
    · replace h := h.1 z
      refine aw_iinc (y := 1) (L2 := [lR 77, lI x1, lI x2, none, lI x4, none, lI x6, lI (x7 + 1), lI x8]) dX10_isSafe_166 rfl (by decide) (by decide) rfl ?_
      refine aw_goto (tgt := 58) dX10_isSafe_169 (by decide) ?_
      exact aw_less (less_k (less_k (less_k (less_k (less_k (less_k (less_k (less_k (less_d less_nil))))))))) h
    · replace h := h.2 z
      refine aw_iload dX10_isSafe_125 rfl ?_
      refine aw_iload dX10_isSafe_127 rfl ?_
      refine aw_callS (mi := iX10_has) (av := [.int x4, .int x8]) (st := []) dX10_isSafe_129 ml_X10_148 kX10_has rfl rfl (Nat.le_of_ble_eq_true rfl) (AM.mono (p_X10_has _ _) (fun r9 M9 e9 => ?_))
      obtain ⟨rfl, rfl⟩ := e9
      refine aw_if_eq (tgt := 160) dX10_isSafe_132 (by decide) (fun z => ?_) (fun z => ?_)
      · replace h := h.1 z
        refine aw_iinc (y := 1) (L2 := [lR 77, lI x1, lI x2, none, lI x4, none, lI x6, lI x7, lI (x8 + 1)]) dX10_isSafe_160 rfl (by decide) (by decide) rfl ?_
        refine aw_goto (tgt := 110) dX10_isSafe_163 (by decide) ?_
        exact h
      · replace h := h.2 z
        refine aw_aload_n dX10_isSafe_135 rfl rfl ?_
        refine aw_iload_n dX10_isSafe_136 rfl rfl ?_
        refine aw_iload_n dX10_isSafe_137 rfl rfl ?_
        refine aw_iconst (v := 1) dX10_isSafe_138 (by decide) ?_
        refine aw_iload dX10_isSafe_139 rfl ?_
        refine aw_ishl dX10_isSafe_141 ?_
        refine aw_iconst (v := (-1)) dX10_isSafe_142 (by decide) ?_
        refine aw_ixor dX10_isSafe_143 ?_
        refine aw_iand dX10_isSafe_144 ?_
        refine aw_iconst (v := 1) dX10_isSafe_145 (by decide) ?_
        refine aw_iload dX10_isSafe_146 rfl ?_
        refine aw_ishl dX10_isSafe_148 ?_
        refine aw_iconst (v := (-1)) dX10_isSafe_149 (by decide) ?_
        refine aw_ixor dX10_isSafe_150 ?_
        refine aw_iand dX10_isSafe_151 ?_
        refine aw_callV (mi := iX10_holdsBy) (av := [.int x1, .int ((x2 &&& (((1 : Int32) <<< (x7 &&& 31)) ^^^ (-1))) &&& (((1 : Int32) <<< (x8 &&& 31)) ^^^ (-1)))]) (st := []) dX10_isSafe_152 ml_X10_307 kX10_holdsBy (by decide) ce_77 clX10 rfl rfl rfl (Nat.le_of_ble_eq_true rfl) (AM.mono h (fun r9 M1 h => ?_))
        obtain ⟨r1, rfl, h⟩ := h
        refine aw_if_ne (tgt := 160) dX10_isSafe_155 (by decide) (fun z => ?_) (fun z => ?_)
        · replace h := h.1 z
          refine aw_iinc (y := 1) (L2 := [lR 77, lI x1, lI x2, none, lI x4, none, lI x6, lI x7, lI (x8 + 1)]) dX10_isSafe_160 rfl (by decide) (by decide) rfl ?_
          refine aw_goto (tgt := 110) dX10_isSafe_163 (by decide) ?_
          exact h
        · replace h := h.2 z
          refine aw_iconst (v := 0) dX10_isSafe_158 (by decide) ?_
          exact aw_iret dX10_isSafe_159 rfl (nar_b (by decide)) h
abbrev AX10_pricesOf (d : Nat) (Q : Option Int32 → Mem → Prop) (pc : Nat) (L : List (Option Value)) (st : List Value) (M : Mem) : Prop := AW none RX10 cX10_pricesOf 6 (some .int) d Q pc L st M
theorem eX10_pricesOf {d : Nat} {Q : Option Int32 → Mem → Prop} (M : Mem) (x1 x2 : Int32) (h : AX10_pricesOf d Q 0 [lR 77, lI x1, lI x2, none, none, none] [] M) : AM d iX10_pricesOf [.ref 77, .int x1, .int x2] M Q := AM.of2 (by decide) rfl rfl h
theorem bX10_pricesOf_0 {d : Nat} {Q : Option Int32 → Mem → Prop} (M : Mem) (x1 x2 : Int32) (h : AX10_pricesOf (d + 1) Q 5 [lR 77, lI x1, lI x2, lI 0, lI 0, none] [] M) : AX10_pricesOf (d + 1) Q 0 [lR 77, lI x1, lI x2, none, none, none] [] M := by
  refine aw_iconst (v := 0) dX10_pricesOf_0 (by decide) ?_
  refine aw_istore_n (L2 := [lR 77, lI x1, lI x2, lI 0, none, none]) dX10_pricesOf_1 rfl (by decide) rfl ?_
  refine aw_iconst (v := 0) dX10_pricesOf_2 (by decide) ?_
  refine aw_istore (L2 := [lR 77, lI x1, lI x2, lI 0, lI 0, none]) dX10_pricesOf_3 (by decide) rfl ?_
  exact h
theorem bX10_pricesOf_5 {d : Nat} {Q : Option Int32 → Mem → Prop} (M : Mem) (x1 x2 x3 x4 : Int32) (h : ((M 77 0) ≤ x4 → Q (some x3) M) ∧ (¬ (M 77 0) ≤ x4 → (¬ (hasV x2 x4) = 0 → AMi d iX10_leastBy [.ref 77, .int (x1 ||| x2), .int x4] M (fun r1 M1 => (¬ r1 = 1000000000 → AX10_pricesOf (d + 1) Q 5 [lR 77, lI x1, lI x2, lI (x3 + r1), lI (x4 + 1), none] [] M1) ∧ (r1 = 1000000000 → Q (some 1000000000) M1))) ∧ ((hasV x2 x4) = 0 → AX10_pricesOf (d + 1) Q 5 [lR 77, lI x1, lI x2, lI x3, lI (x4 + 1), none] [] M))) : AX10_pricesOf (d + 1) Q 5 [lR 77, lI x1, lI x2, lI x3, lI x4, none] [] M := by
  refine aw_iload dX10_pricesOf_5 rfl ?_
  refine aw_aload_n dX10_pricesOf_7 rfl rfl ?_
  refine aw_getf dX10_pricesOf_8 fl_X10_138 (by decide) ce_77 rfl (v := .int (M 77 0)) rfl ?_
  refine aw_icmp_ge (tgt := 60) dX10_pricesOf_11 (by decide) (fun z => ?_) (fun z => ?_)
  · replace h := h.1 z
    refine aw_iload_n dX10_pricesOf_60 rfl rfl ?_
    exact aw_iret dX10_pricesOf_61 rfl rfl h
  · replace h := h.2 z
    refine aw_iload_n dX10_pricesOf_14 rfl rfl ?_
    refine aw_iload dX10_pricesOf_15 rfl ?_
    refine aw_callS (mi := iX10_has) (av := [.int x2, .int x4]) (st := []) dX10_pricesOf_17 ml_X10_148 kX10_has rfl rfl (Nat.le_of_ble_eq_true rfl) (AM.mono (p_X10_has _ _) (fun r9 M9 e9 => ?_))
    obtain ⟨rfl, rfl⟩ := e9
    refine aw_if_ne (tgt := 26) dX10_pricesOf_20 (by decide) (fun z => ?_) (fun z => ?_)
    · replace h := h.1 z
      refine aw_aload_n dX10_pricesOf_26 rfl rfl ?_
      refine aw_iload_n dX10_pricesOf_27 rfl rfl ?_
      refine aw_iload_n dX10_pricesOf_28 rfl rfl ?_
      refine aw_ior dX10_pricesOf_29 ?_
      refine aw_iload dX10_pricesOf_30 rfl ?_
      refine aw_callV (mi := iX10_leastBy) (av := [.int (x1 ||| x2), .int x4]) (st := []) dX10_pricesOf_32 ml_X10_298 kX10_leastBy (by decide) ce_77 clX10 rfl rfl rfl (Nat.le_of_ble_eq_true rfl) (AM.mono h (fun r9 M1 h => ?_))
      obtain ⟨r1, rfl, h⟩ := h
      refine aw_istore (L2 := [lR 77, lI x1, lI x2, lI x3, lI x4, lI r1]) dX10_pricesOf_35 (by decide) rfl ?_
      refine aw_iload dX10_pricesOf_37 rfl ?_
      refine aw_ldcw dX10_pricesOf_39 kc_X10_273 ?_
      refine aw_icmp_ne (tgt := 49) dX10_pricesOf_42 (by decide) (fun z => ?_) (fun z => ?_)
      · replace h := h.1 z
        refine aw_iload_n dX10_pricesOf_49 rfl rfl ?_
        refine aw_iload dX10_pricesOf_50 rfl ?_
        refine aw_iadd dX10_pricesOf_52 ?_
        refine aw_istore_n (L2 := [lR 77, lI x1, lI x2, lI (x3 + r1), lI x4, lI r1]) dX10_pricesOf_53 rfl (by decide) rfl ?_
        refine aw_iinc (y := 1) (L2 := [lR 77, lI x1, lI x2, lI (x3 + r1), lI (x4 + 1), lI r1]) dX10_pricesOf_54 rfl (by decide) (by decide) rfl ?_
        refine aw_goto (tgt := 5) dX10_pricesOf_57 (by decide) ?_
        exact aw_less (less_k (less_k (less_k (less_k (less_k (less_d less_nil)))))) h
      · replace h := h.2 z
        refine aw_ldcw dX10_pricesOf_45 kc_X10_273 ?_
        exact aw_iret dX10_pricesOf_48 rfl rfl h
    · replace h := h.2 z
      refine aw_goto (tgt := 54) dX10_pricesOf_23 (by decide) ?_
      refine aw_iinc (y := 1) (L2 := [lR 77, lI x1, lI x2, lI x3, lI (x4 + 1), none]) dX10_pricesOf_54 rfl (by decide) (by decide) rfl ?_
      refine aw_goto (tgt := 5) dX10_pricesOf_57 (by decide) ?_
      exact h
abbrev AX10_safe (d : Nat) (Q : Option Int32 → Mem → Prop) (pc : Nat) (L : List (Option Value)) (st : List Value) (M : Mem) : Prop := AW none RX10 cX10_safe 9 (some .int) d Q pc L st M
theorem eX10_safe {d : Nat} {Q : Option Int32 → Mem → Prop} (M : Mem) (x1 x2 x3 : Int32) (h : AX10_safe d Q 0 [lR 77, lI x1, lI x2, lI x3, none, none, none, none, none] [] M) : AM d iX10_safe [.ref 77, .int x1, .int x2, .int x3] M Q := AM.of2 (by decide) rfl rfl h
theorem bX10_safe_0 {d : Nat} {Q : Option Int32 → Mem → Prop} (M : Mem) (x1 x2 x3 : Int32) (h : ((isPV (M 77 34) x1) = 0 → Q (some (-1)) M) ∧ (¬ (isPV (M 77 34) x1) = 0 → ((inV x2 1 2) = 0 → Q (some (-1)) M) ∧ (¬ (inV x2 1 2) = 0 → (¬ (inV x3 0 1) = 0 → (vp_in x1 12) ∧ ((¬ (hasV (M 77 1) (M 99 (ix x1))) = 0 → AMv d iX10_laysSteps [.ref 77, .int 0] M (fun M1 => AX10_safe (d + 1) Q 67 [lR 77, lI x1, lI x2, lI x3, lI (M 99 (ix x1)), lI (-1), lI 1000000000, lI 0, none] [] M1)) ∧ ((hasV (M 77 1) (M 99 (ix x1))) = 0 → Q (some (-2)) M))) ∧ ((inV x3 0 1) = 0 → Q (some (-1)) M)))) : AX10_safe (d + 1) Q 0 [lR 77, lI x1, lI x2, lI x3, none, none, none, none, none] [] M := by
  refine aw_aload_n dX10_safe_0 rfl rfl ?_
  refine aw_iload_n dX10_safe_1 rfl rfl ?_
  refine aw_callV (mi := iX10_isOath) (av := [.int x1]) (st := []) dX10_safe_2 ml_X10_292 kX10_isOath (by decide) ce_77 clX10 rfl rfl rfl (Nat.le_of_ble_eq_true rfl) (AM.mono (p_X10_isOath _) (fun r9 M9 e9 => ?_))
  obtain ⟨rfl, rfl⟩ := e9
  refine aw_if_eq (tgt := 26) dX10_safe_5 (by decide) (fun z => ?_) (fun z => ?_)
  · replace h := h.1 z
    refine aw_iconst (v := (-1)) dX10_safe_26 (by decide) ?_
    exact aw_iret dX10_safe_27 rfl rfl h
  · replace h := h.2 z
    refine aw_iload_n dX10_safe_8 rfl rfl ?_
    refine aw_iconst (v := 1) dX10_safe_9 (by decide) ?_
    refine aw_iconst (v := 2) dX10_safe_10 (by decide) ?_
    refine aw_callS (mi := iX10_in) (av := [.int x2, .int 1, .int 2]) (st := []) dX10_safe_11 ml_X10_152 kX10_in rfl rfl (Nat.le_of_ble_eq_true rfl) (AM.mono (p_X10_in _ _ _) (fun r9 M9 e9 => ?_))
    obtain ⟨rfl, rfl⟩ := e9
    refine aw_if_eq (tgt := 26) dX10_safe_14 (by decide) (fun z => ?_) (fun z => ?_)
    · replace h := h.1 z
      refine aw_iconst (v := (-1)) dX10_safe_26 (by decide) ?_
      exact aw_iret dX10_safe_27 rfl rfl h
    · replace h := h.2 z
      refine aw_iload_n dX10_safe_17 rfl rfl ?_
      refine aw_iconst (v := 0) dX10_safe_18 (by decide) ?_
      refine aw_iconst (v := 1) dX10_safe_19 (by decide) ?_
      refine aw_callS (mi := iX10_in) (av := [.int x3, .int 0, .int 1]) (st := []) dX10_safe_20 ml_X10_152 kX10_in rfl rfl (Nat.le_of_ble_eq_true rfl) (AM.mono (p_X10_in _ _ _) (fun r9 M9 e9 => ?_))
      obtain ⟨rfl, rfl⟩ := e9
      refine aw_if_ne (tgt := 28) dX10_safe_23 (by decide) (fun z => ?_) (fun z => ?_)
      · replace h := h.1 z
        refine aw_aload_n dX10_safe_28 rfl rfl ?_
        refine aw_getf dX10_safe_29 fl_X10_74 (by decide) ce_77 rfl (v := .ref 99) rfl ?_
        refine aw_iload_n dX10_safe_32 rfl rfl ?_
        obtain ⟨h9, h⟩ := h
        refine aw_iald dX10_safe_33 (by decide) ce_99 h9 ?_
        refine aw_istore (L2 := [lR 77, lI x1, lI x2, lI x3, lI (M 99 (ix x1)), none, none, none, none]) dX10_safe_34 (by decide) rfl ?_
        refine aw_aload_n dX10_safe_36 rfl rfl ?_
        refine aw_getf dX10_safe_37 fl_X10_145 (by decide) ce_77 rfl (v := .int (M 77 1)) rfl ?_
        refine aw_iload dX10_safe_40 rfl ?_
        refine aw_callS (mi := iX10_has) (av := [.int (M 77 1), .int (M 99 (ix x1))]) (st := []) dX10_safe_42 ml_X10_148 kX10_has rfl rfl (Nat.le_of_ble_eq_true rfl) (AM.mono (p_X10_has _ _) (fun r9 M9 e9 => ?_))
        obtain ⟨rfl, rfl⟩ := e9
        refine aw_if_ne (tgt := 51) dX10_safe_45 (by decide) (fun z => ?_) (fun z => ?_)
        · replace h := h.1 z
          refine aw_aload_n dX10_safe_51 rfl rfl ?_
          refine aw_iconst (v := 0) dX10_safe_52 (by decide) ?_
          refine aw_callV (mi := iX10_laysSteps) (av := [.int 0]) (st := []) dX10_safe_53 ml_X10_295 kX10_laysSteps (by decide) ce_77 clX10 rfl rfl rfl (Nat.le_of_ble_eq_true rfl) (AM.mono h (fun r9 M1 h => ?_))
          obtain ⟨rfl, h⟩ := h
          refine aw_iconst (v := (-1)) dX10_safe_56 (by decide) ?_
          refine aw_istore (L2 := [lR 77, lI x1, lI x2, lI x3, lI (M 99 (ix x1)), lI (-1), none, none, none]) dX10_safe_57 (by decide) rfl ?_
          refine aw_ldcw dX10_safe_59 kc_X10_273 ?_
          refine aw_istore (L2 := [lR 77, lI x1, lI x2, lI x3, lI (M 99 (ix x1)), lI (-1), lI 1000000000, none, none]) dX10_safe_62 (by decide) rfl ?_
          refine aw_iconst (v := 0) dX10_safe_64 (by decide) ?_
          refine aw_istore (L2 := [lR 77, lI x1, lI x2, lI x3, lI (M 99 (ix x1)), lI (-1), lI 1000000000, lI 0, none]) dX10_safe_65 (by decide) rfl ?_
          exact h
        · replace h := h.2 z
          refine aw_bipush (v := (-2)) dX10_safe_48 (by decide) ?_
          exact aw_iret dX10_safe_50 rfl rfl h
      · replace h := h.2 z
        refine aw_iconst (v := (-1)) dX10_safe_26 (by decide) ?_
        exact aw_iret dX10_safe_27 rfl rfl h
theorem bX10_safe_67 {d : Nat} {Q : Option Int32 → Mem → Prop} (M : Mem) (x1 x2 x3 x4 x5 x6 x7 : Int32) (h : (((1 : Int32) <<< ((M 77 0) &&& 31)) ≤ x7 → (¬ x5 = (-1) → (¬ x3 = 0 → Q (some x5) M) ∧ (x3 = 0 → Q (some x6) M)) ∧ (x5 = (-1) → Q (some (-2)) M)) ∧ (¬ ((1 : Int32) <<< ((M 77 0) &&& 31)) ≤ x7 → (vp_in x1 12) ∧ ((¬ (x7 &&& (M 101 (ix x1))) = 0 → AX10_safe (d + 1) Q 67 [lR 77, lI x1, lI x2, lI x3, lI x4, lI x5, lI x6, lI (x7 + 1), none] [] M) ∧ ((x7 &&& (M 101 (ix x1))) = 0 → (¬ (x7 &&& ((M 77 1) ^^^ (-1))) = 0 → AX10_safe (d + 1) Q 67 [lR 77, lI x1, lI x2, lI x3, lI x4, lI x5, lI x6, lI (x7 + 1), none] [] M) ∧ ((x7 &&& ((M 77 1) ^^^ (-1))) = 0 → ((bitsV x7) ≤ 5 → (vp_in x1 12) ∧ (AMi d iX10_pricesOf [.ref 77, .int (M 101 (ix x1)), .int x7] M (fun r1 M1 => (x6 < r1 → AX10_safe (d + 1) Q 67 [lR 77, lI x1, lI x2, lI x3, lI x4, lI x5, lI x6, lI (x7 + 1), none] [] M1) ∧ (¬ x6 < r1 → (r1 = 1000000000 → AX10_safe (d + 1) Q 67 [lR 77, lI x1, lI x2, lI x3, lI x4, lI x5, lI x6, lI (x7 + 1), none] [] M1) ∧ (¬ r1 = 1000000000 → (¬ r1 = x6 → AX10_safe (d + 1) Q 172 [lR 77, lI x1, lI x2, lI x3, lI x4, lI x5, lI x6, lI x7, lI r1] [] M1) ∧ (r1 = x6 → (x5 = (-1) → AX10_safe (d + 1) Q 172 [lR 77, lI x1, lI x2, lI x3, lI x4, lI x5, lI x6, lI x7, lI r1] [] M1) ∧ (¬ x5 = (-1) → ((bitsV x7) < (bitsV x5) → AX10_safe (d + 1) Q 172 [lR 77, lI x1, lI x2, lI x3, lI x4, lI x5, lI x6, lI x7, lI r1] [] M1) ∧ (¬ (bitsV x7) < (bitsV x5) → AX10_safe (d + 1) Q 67 [lR 77, lI x1, lI x2, lI x3, lI x4, lI x5, lI x6, lI (x7 + 1), none] [] M1)))))))) ∧ (¬ (bitsV x7) ≤ 5 → AX10_safe (d + 1) Q 67 [lR 77, lI x1, lI x2, lI x3, lI x4, lI x5, lI x6, lI (x7 + 1), none] [] M)))))) : AX10_safe (d + 1) Q 67 [lR 77, lI x1, lI x2, lI x3, lI x4, lI x5, lI x6, lI x7, none] [] M := by
  refine aw_iload dX10_safe_67 rfl ?_
  refine aw_iconst (v := 1) dX10_safe_69 (by decide) ?_
  refine aw_aload_n dX10_safe_70 rfl rfl ?_
  refine aw_getf dX10_safe_71 fl_X10_138 (by decide) ce_77 rfl (v := .int (M 77 0)) rfl ?_
  refine aw_ishl dX10_safe_74 ?_
  refine aw_icmp_ge (tgt := 208) dX10_safe_75 (by decide) (fun z => ?_) (fun z => ?_)
  · replace h := h.1 z
    refine aw_iload dX10_safe_208 rfl ?_
    refine aw_iconst (v := (-1)) dX10_safe_210 (by decide) ?_
    refine aw_icmp_ne (tgt := 219) dX10_safe_211 (by decide) (fun z => ?_) (fun z => ?_)
    · replace h := h.1 z
      refine aw_iload_n dX10_safe_219 rfl rfl ?_
      refine aw_if_ne (tgt := 228) dX10_safe_220 (by decide) (fun z => ?_) (fun z => ?_)
      · replace h := h.1 z
        refine aw_iload dX10_safe_228 rfl ?_
        exact aw_iret dX10_safe_230 rfl rfl h
      · replace h := h.2 z
        refine aw_iload dX10_safe_223 rfl ?_
        refine aw_goto (tgt := 230) dX10_safe_225 (by decide) ?_
        exact aw_iret dX10_safe_230 rfl rfl h
    · replace h := h.2 z
      refine aw_bipush (v := (-2)) dX10_safe_214 (by decide) ?_
      refine aw_goto (tgt := 230) dX10_safe_216 (by decide) ?_
      exact aw_iret dX10_safe_230 rfl rfl h
  · replace h := h.2 z
    refine aw_iload dX10_safe_78 rfl ?_
    refine aw_aload_n dX10_safe_80 rfl rfl ?_
    refine aw_getf dX10_safe_81 fl_X10_80 (by decide) ce_77 rfl (v := .ref 101) rfl ?_
    refine aw_iload_n dX10_safe_84 rfl rfl ?_
    obtain ⟨h9, h⟩ := h
    refine aw_iald dX10_safe_85 (by decide) ce_101 h9 ?_
    refine aw_iand dX10_safe_86 ?_
    refine aw_if_ne (tgt := 202) dX10_safe_87 (by decide) (fun z => ?_) (fun z => ?_)
    · replace h := h.1 z
      refine aw_iinc (y := 1) (L2 := [lR 77, lI x1, lI x2, lI x3, lI x4, lI x5, lI x6, lI (x7 + 1), none]) dX10_safe_202 rfl (by decide) (by decide) rfl ?_
      refine aw_goto (tgt := 67) dX10_safe_205 (by decide) ?_
      exact h
    · replace h := h.2 z
      refine aw_iload dX10_safe_90 rfl ?_
      refine aw_aload_n dX10_safe_92 rfl rfl ?_
      refine aw_getf dX10_safe_93 fl_X10_145 (by decide) ce_77 rfl (v := .int (M 77 1)) rfl ?_
      refine aw_iconst (v := (-1)) dX10_safe_96 (by decide) ?_
      refine aw_ixor dX10_safe_97 ?_
      refine aw_iand dX10_safe_98 ?_
      refine aw_if_ne (tgt := 202) dX10_safe_99 (by decide) (fun z => ?_) (fun z => ?_)
      · replace h := h.1 z
        refine aw_iinc (y := 1) (L2 := [lR 77, lI x1, lI x2, lI x3, lI x4, lI x5, lI x6, lI (x7 + 1), none]) dX10_safe_202 rfl (by decide) (by decide) rfl ?_
        refine aw_goto (tgt := 67) dX10_safe_205 (by decide) ?_
        exact h
      · replace h := h.2 z
        refine aw_iload dX10_safe_102 rfl ?_
        refine aw_callS (mi := iX10_bits) (av := [.int x7]) (st := []) dX10_safe_104 ml_X10_313 kX10_bits rfl rfl (Nat.le_of_ble_eq_true rfl) (AM.mono (p_X10_bits _) (fun r9 M9 e9 => ?_))
        obtain ⟨rfl, rfl⟩ := e9
        refine aw_iconst (v := 5) dX10_safe_107 (by decide) ?_
        refine aw_icmp_le (tgt := 114) dX10_safe_108 (by decide) (fun z => ?_) (fun z => ?_)
        · replace h := h.1 z
          refine aw_aload_n dX10_safe_114 rfl rfl ?_
          refine aw_aload_n dX10_safe_115 rfl rfl ?_
          refine aw_getf dX10_safe_116 fl_X10_80 (by decide) ce_77 rfl (v := .ref 101) rfl ?_
          refine aw_iload_n dX10_safe_119 rfl rfl ?_
          obtain ⟨h9, h⟩ := h
          refine aw_iald dX10_safe_120 (by decide) ce_101 h9 ?_
          refine aw_iload dX10_safe_121 rfl ?_
          refine aw_callV (mi := iX10_pricesOf) (av := [.int (M 101 (ix x1)), .int x7]) (st := []) dX10_safe_123 ml_X10_360 kX10_pricesOf (by decide) ce_77 clX10 rfl rfl rfl (Nat.le_of_ble_eq_true rfl) (AM.mono h (fun r9 M1 h => ?_))
          obtain ⟨r1, rfl, h⟩ := h
          refine aw_istore (L2 := [lR 77, lI x1, lI x2, lI x3, lI x4, lI x5, lI x6, lI x7, lI r1]) dX10_safe_126 (by decide) rfl ?_
          refine aw_iload dX10_safe_128 rfl ?_
          refine aw_iload dX10_safe_130 rfl ?_
          refine aw_icmp_gt (tgt := 202) dX10_safe_132 (by decide) (fun z => ?_) (fun z => ?_)
          · replace h := h.1 z
            refine aw_iinc (y := 1) (L2 := [lR 77, lI x1, lI x2, lI x3, lI x4, lI x5, lI x6, lI (x7 + 1), lI r1]) dX10_safe_202 rfl (by decide) (by decide) rfl ?_
            refine aw_goto (tgt := 67) dX10_safe_205 (by decide) ?_
            exact aw_less (less_k (less_k (less_k (less_k (less_k (less_k (less_k (less_k (less_d less_nil))))))))) h
          · replace h := h.2 z
            refine aw_iload dX10_safe_135 rfl ?_
            refine aw_ldcw dX10_safe_137 kc_X10_273 ?_
            refine aw_icmp_eq (tgt := 202) dX10_safe_140 (by decide) (fun z => ?_) (fun z => ?_)
            · replace h := h.1 z
              refine aw_iinc (y := 1) (L2 := [lR 77, lI x1, lI x2, lI x3, lI x4, lI x5, lI x6, lI (x7 + 1), lI r1]) dX10_safe_202 rfl (by decide) (by decide) rfl ?_
              refine aw_goto (tgt := 67) dX10_safe_205 (by decide) ?_
              exact aw_less (less_k (less_k (less_k (less_k (less_k (less_k (less_k (less_k (less_d less_nil))))))))) h
            · replace h := h.2 z
              refine aw_iload dX10_safe_143 rfl ?_
              refine aw_iload dX10_safe_145 rfl ?_
              refine aw_icmp_ne (tgt := 172) dX10_safe_147 (by decide) (fun z => ?_) (fun z => ?_)
              · replace h := h.1 z
                exact h
              · replace h := h.2 z
                refine aw_iload dX10_safe_150 rfl ?_
                refine aw_iconst (v := (-1)) dX10_safe_152 (by decide) ?_
                refine aw_icmp_eq (tgt := 172) dX10_safe_153 (by decide) (fun z => ?_) (fun z => ?_)
                · replace h := h.1 z
                  exact h
                · replace h := h.2 z
                  refine aw_iload dX10_safe_156 rfl ?_
                  refine aw_callS (mi := iX10_bits) (av := [.int x7]) (st := []) dX10_safe_158 ml_X10_313 kX10_bits rfl rfl (Nat.le_of_ble_eq_true rfl) (AM.mono (p_X10_bits _) (fun r9 M9 e9 => ?_))
                  obtain ⟨rfl, rfl⟩ := e9
                  refine aw_iload dX10_safe_161 rfl ?_
                  refine aw_callS (mi := iX10_bits) (av := [.int x5]) (st := [.int (bitsV x7)]) dX10_safe_163 ml_X10_313 kX10_bits rfl rfl (Nat.le_of_ble_eq_true rfl) (AM.mono (p_X10_bits _) (fun r9 M9 e9 => ?_))
                  obtain ⟨rfl, rfl⟩ := e9
                  refine aw_icmp_lt (tgt := 172) dX10_safe_166 (by decide) (fun z => ?_) (fun z => ?_)
                  · replace h := h.1 z
                    exact h
                  · replace h := h.2 z
                    refine aw_goto (tgt := 202) dX10_safe_169 (by decide) ?_
                    refine aw_iinc (y := 1) (L2 := [lR 77, lI x1, lI x2, lI x3, lI x4, lI x5, lI x6, lI (x7 + 1), lI r1]) dX10_safe_202 rfl (by decide) (by decide) rfl ?_
                    refine aw_goto (tgt := 67) dX10_safe_205 (by decide) ?_
                    exact aw_less (less_k (less_k (less_k (less_k (less_k (less_k (less_k (less_k (less_d less_nil))))))))) h
        · replace h := h.2 z
          refine aw_goto (tgt := 202) dX10_safe_111 (by decide) ?_
          refine aw_iinc (y := 1) (L2 := [lR 77, lI x1, lI x2, lI x3, lI x4, lI x5, lI x6, lI (x7 + 1), none]) dX10_safe_202 rfl (by decide) (by decide) rfl ?_
          refine aw_goto (tgt := 67) dX10_safe_205 (by decide) ?_
          exact h
theorem bX10_safe_172 {d : Nat} {Q : Option Int32 → Mem → Prop} (M : Mem) (x1 x2 x3 x4 x5 x6 x7 x8 : Int32) (h : (vp_in x1 12) ∧ (AMi d iX10_isSafe [.ref 77, .int x4, .int ((M 101 (ix x1)) ||| x7), .int x2] M (fun r1 M1 => (¬ r1 = 0 → AX10_safe (d + 1) Q 67 [lR 77, lI x1, lI x2, lI x3, lI x4, lI x7, lI x8, lI (x7 + 1), none] [] M1) ∧ (r1 = 0 → AX10_safe (d + 1) Q 67 [lR 77, lI x1, lI x2, lI x3, lI x4, lI x5, lI x6, lI (x7 + 1), none] [] M1)))) : AX10_safe (d + 1) Q 172 [lR 77, lI x1, lI x2, lI x3, lI x4, lI x5, lI x6, lI x7, lI x8] [] M := by
  refine aw_aload_n dX10_safe_172 rfl rfl ?_
  refine aw_iload dX10_safe_173 rfl ?_
  refine aw_aload_n dX10_safe_175 rfl rfl ?_
  refine aw_getf dX10_safe_176 fl_X10_80 (by decide) ce_77 rfl (v := .ref 101) rfl ?_
  refine aw_iload_n dX10_safe_179 rfl rfl ?_
  obtain ⟨h9, h⟩ := h
  refine aw_iald dX10_safe_180 (by decide) ce_101 h9 ?_
  refine aw_iload dX10_safe_181 rfl ?_
  refine aw_ior dX10_safe_183 ?_
  refine aw_iload_n dX10_safe_184 rfl rfl ?_
  refine aw_callV (mi := iX10_isSafe) (av := [.int x4, .int ((M 101 (ix x1)) ||| x7), .int x2]) (st := []) dX10_safe_185 ml_X10_363 kX10_isSafe (by decide) ce_77 clX10 rfl rfl rfl (Nat.le_of_ble_eq_true rfl) (AM.mono h (fun r9 M1 h => ?_))
  obtain ⟨r1, rfl, h⟩ := h
  refine aw_if_ne (tgt := 194) dX10_safe_188 (by decide) (fun z => ?_) (fun z => ?_)
  · replace h := h.1 z
    refine aw_iload dX10_safe_194 rfl ?_
    refine aw_istore (L2 := [lR 77, lI x1, lI x2, lI x3, lI x4, lI x7, lI x6, lI x7, lI x8]) dX10_safe_196 (by decide) rfl ?_
    refine aw_iload dX10_safe_198 rfl ?_
    refine aw_istore (L2 := [lR 77, lI x1, lI x2, lI x3, lI x4, lI x7, lI x8, lI x7, lI x8]) dX10_safe_200 (by decide) rfl ?_
    refine aw_iinc (y := 1) (L2 := [lR 77, lI x1, lI x2, lI x3, lI x4, lI x7, lI x8, lI (x7 + 1), lI x8]) dX10_safe_202 rfl (by decide) (by decide) rfl ?_
    refine aw_goto (tgt := 67) dX10_safe_205 (by decide) ?_
    exact aw_less (less_k (less_k (less_k (less_k (less_k (less_k (less_k (less_k (less_d less_nil))))))))) h
  · replace h := h.2 z
    refine aw_goto (tgt := 202) dX10_safe_191 (by decide) ?_
    refine aw_iinc (y := 1) (L2 := [lR 77, lI x1, lI x2, lI x3, lI x4, lI x5, lI x6, lI (x7 + 1), lI x8]) dX10_safe_202 rfl (by decide) (by decide) rfl ?_
    refine aw_goto (tgt := 67) dX10_safe_205 (by decide) ?_
    exact aw_less (less_k (less_k (less_k (less_k (less_k (less_k (less_k (less_k (less_d less_nil))))))))) h
abbrev AX10_cut (d : Nat) (Q : Option Int32 → Mem → Prop) (pc : Nat) (L : List (Option Value)) (st : List Value) (M : Mem) : Prop := AW none RX10 cX10_cut 3 (some .int) d Q pc L st M
theorem eX10_cut {d : Nat} {Q : Option Int32 → Mem → Prop} (M : Mem) (x1 : Int32) (h : AX10_cut d Q 0 [lR 77, lI x1, none] [] M) : AM d iX10_cut [.ref 77, .int x1] M Q := AM.of2 (by decide) rfl rfl h
theorem bX10_cut_0 {d : Nat} {Q : Option Int32 → Mem → Prop} (M : Mem) (x1 : Int32) (h : ((isPV (M 77 34) x1) = 0 → Q (some (-1)) M) ∧ (¬ (isPV (M 77 34) x1) = 0 → (vp_in x1 12) ∧ ((¬ (hasV (M 77 1) (M 99 (ix x1))) = 0 → AMv d iX10_laysSteps [.ref 77, .int 0] M (fun M1 => (vp_in x1 12) ∧ (AMi d iX10_reach [.ref 77, .int (M1 99 (ix x1)), .int (M1 77 1)] M1 (fun r2 M2 => AMi d iX10_topOf [.ref 77] M2 (fun r3 M3 => ((hasV r2 r3) = 0 → Q (some r2) M3) ∧ (¬ (hasV r2 r3) = 0 → Q (some (-2)) M3)))))) ∧ ((hasV (M 77 1) (M 99 (ix x1))) = 0 → Q (some (-1)) M)))) : AX10_cut (d + 1) Q 0 [lR 77, lI x1, none] [] M := by
  refine aw_aload_n dX10_cut_0 rfl rfl ?_
  refine aw_iload_n dX10_cut_1 rfl rfl ?_
  refine aw_callV (mi := iX10_isOath) (av := [.int x1]) (st := []) dX10_cut_2 ml_X10_292 kX10_isOath (by decide) ce_77 clX10 rfl rfl rfl (Nat.le_of_ble_eq_true rfl) (AM.mono (p_X10_isOath _) (fun r9 M9 e9 => ?_))
  obtain ⟨rfl, rfl⟩ := e9
  refine aw_if_eq (tgt := 24) dX10_cut_5 (by decide) (fun z => ?_) (fun z => ?_)
  · replace h := h.1 z
    refine aw_iconst (v := (-1)) dX10_cut_24 (by decide) ?_
    exact aw_iret dX10_cut_25 rfl rfl h
  · replace h := h.2 z
    refine aw_aload_n dX10_cut_8 rfl rfl ?_
    refine aw_getf dX10_cut_9 fl_X10_145 (by decide) ce_77 rfl (v := .int (M 77 1)) rfl ?_
    refine aw_aload_n dX10_cut_12 rfl rfl ?_
    refine aw_getf dX10_cut_13 fl_X10_74 (by decide) ce_77 rfl (v := .ref 99) rfl ?_
    refine aw_iload_n dX10_cut_16 rfl rfl ?_
    obtain ⟨h9, h⟩ := h
    refine aw_iald dX10_cut_17 (by decide) ce_99 h9 ?_
    refine aw_callS (mi := iX10_has) (av := [.int (M 77 1), .int (M 99 (ix x1))]) (st := []) dX10_cut_18 ml_X10_148 kX10_has rfl rfl (Nat.le_of_ble_eq_true rfl) (AM.mono (p_X10_has _ _) (fun r9 M9 e9 => ?_))
    obtain ⟨rfl, rfl⟩ := e9
    refine aw_if_ne (tgt := 26) dX10_cut_21 (by decide) (fun z => ?_) (fun z => ?_)
    · replace h := h.1 z
      refine aw_aload_n dX10_cut_26 rfl rfl ?_
      refine aw_iconst (v := 0) dX10_cut_27 (by decide) ?_
      refine aw_callV (mi := iX10_laysSteps) (av := [.int 0]) (st := []) dX10_cut_28 ml_X10_295 kX10_laysSteps (by decide) ce_77 clX10 rfl rfl rfl (Nat.le_of_ble_eq_true rfl) (AM.mono h (fun r9 M1 h => ?_))
      obtain ⟨rfl, h⟩ := h
      refine aw_aload_n dX10_cut_31 rfl rfl ?_
      refine aw_aload_n dX10_cut_32 rfl rfl ?_
      refine aw_getf dX10_cut_33 fl_X10_74 (by decide) ce_77 rfl (v := .ref 99) rfl ?_
      refine aw_iload_n dX10_cut_36 rfl rfl ?_
      obtain ⟨h9, h⟩ := h
      refine aw_iald dX10_cut_37 (by decide) ce_99 h9 ?_
      refine aw_aload_n dX10_cut_38 rfl rfl ?_
      refine aw_getf dX10_cut_39 fl_X10_145 (by decide) ce_77 rfl (v := .int (M1 77 1)) rfl ?_
      refine aw_callV (mi := iX10_reach) (av := [.int (M1 99 (ix x1)), .int (M1 77 1)]) (st := []) dX10_cut_42 ml_X10_304 kX10_reach (by decide) ce_77 clX10 rfl rfl rfl (Nat.le_of_ble_eq_true rfl) (AM.mono h (fun r9 M2 h => ?_))
      obtain ⟨r2, rfl, h⟩ := h
      refine aw_istore_n (L2 := [lR 77, lI x1, lI r2]) dX10_cut_45 rfl (by decide) rfl ?_
      refine aw_iload_n dX10_cut_46 rfl rfl ?_
      refine aw_aload_n dX10_cut_47 rfl rfl ?_
      refine aw_callV (mi := iX10_topOf) (av := []) (st := [.int r2]) dX10_cut_48 ml_X10_163 kX10_topOf (by decide) ce_77 clX10 rfl rfl rfl (Nat.le_of_ble_eq_true rfl) (AM.mono h (fun r9 M3 h => ?_))
      obtain ⟨r3, rfl, h⟩ := h
      refine aw_callS (mi := iX10_has) (av := [.int r2, .int r3]) (st := []) dX10_cut_51 ml_X10_148 kX10_has rfl rfl (Nat.le_of_ble_eq_true rfl) (AM.mono (p_X10_has _ _) (fun r9 M9 e9 => ?_))
      obtain ⟨rfl, rfl⟩ := e9
      refine aw_if_eq (tgt := 62) dX10_cut_54 (by decide) (fun z => ?_) (fun z => ?_)
      · replace h := h.1 z
        refine aw_iload_n dX10_cut_62 rfl rfl ?_
        exact aw_iret dX10_cut_63 rfl rfl h
      · replace h := h.2 z
        refine aw_bipush (v := (-2)) dX10_cut_57 (by decide) ?_
        refine aw_goto (tgt := 63) dX10_cut_59 (by decide) ?_
        exact aw_iret dX10_cut_63 rfl rfl h
    · replace h := h.2 z
      refine aw_iconst (v := (-1)) dX10_cut_24 (by decide) ?_
      exact aw_iret dX10_cut_25 rfl rfl h
abbrev AX10_soonest (d : Nat) (Q : Option Int32 → Mem → Prop) (pc : Nat) (L : List (Option Value)) (st : List Value) (M : Mem) : Prop := AW none RX10 cX10_soonest 4 (some .int) d Q pc L st M
theorem eX10_soonest {d : Nat} {Q : Option Int32 → Mem → Prop} (M : Mem) (x1 : Int32) (h : AX10_soonest d Q 0 [lR 77, lI x1, none, none] [] M) : AM d iX10_soonest [.ref 77, .int x1] M Q := AM.of2 (by decide) rfl rfl h
theorem bX10_soonest_0 {d : Nat} {Q : Option Int32 → Mem → Prop} (M : Mem) (x1 : Int32) (h : (¬ (isPV (M 77 34) x1) = 0 → AMv d iX10_begins [.ref 77] M (fun M1 => AX10_soonest (d + 1) Q 19 [lR 77, lI x1, lI (-2), lI 0] [] M1)) ∧ ((isPV (M 77 34) x1) = 0 → Q (some (-1)) M)) : AX10_soonest (d + 1) Q 0 [lR 77, lI x1, none, none] [] M := by
  refine aw_aload_n dX10_soonest_0 rfl rfl ?_
  refine aw_iload_n dX10_soonest_1 rfl rfl ?_
  refine aw_callV (mi := iX10_isOath) (av := [.int x1]) (st := []) dX10_soonest_2 ml_X10_292 kX10_isOath (by decide) ce_77 clX10 rfl rfl rfl (Nat.le_of_ble_eq_true rfl) (AM.mono (p_X10_isOath _) (fun r9 M9 e9 => ?_))
  obtain ⟨rfl, rfl⟩ := e9
  refine aw_if_ne (tgt := 10) dX10_soonest_5 (by decide) (fun z => ?_) (fun z => ?_)
  · replace h := h.1 z
    refine aw_aload_n dX10_soonest_10 rfl rfl ?_
    refine aw_callV (mi := iX10_begins) (av := []) (st := []) dX10_soonest_11 ml_X10_342 kX10_begins (by decide) ce_77 clX10 rfl rfl rfl (Nat.le_of_ble_eq_true rfl) (AM.mono h (fun r9 M1 h => ?_))
    obtain ⟨rfl, h⟩ := h
    refine aw_bipush (v := (-2)) dX10_soonest_14 (by decide) ?_
    refine aw_istore_n (L2 := [lR 77, lI x1, lI (-2), none]) dX10_soonest_16 rfl (by decide) rfl ?_
    refine aw_iconst (v := 0) dX10_soonest_17 (by decide) ?_
    refine aw_istore_n (L2 := [lR 77, lI x1, lI (-2), lI 0]) dX10_soonest_18 rfl (by decide) rfl ?_
    exact h
  · replace h := h.2 z
    refine aw_iconst (v := (-1)) dX10_soonest_8 (by decide) ?_
    exact aw_iret dX10_soonest_9 rfl rfl h
theorem bX10_soonest_19 {d : Nat} {Q : Option Int32 → Mem → Prop} (M : Mem) (x1 x2 x3 : Int32) (h : (60 < x3 → AMv d iX10_again [.ref 77] M (fun M1 => Q (some x2) M1)) ∧ (¬ 60 < x3 → (¬ x2 = (-2) → AMv d iX10_again [.ref 77] M (fun M2 => Q (some x2) M2)) ∧ (x2 = (-2) → (x3 ≤ 0 → AX10_soonest (d + 1) Q 44 [lR 77, lI x1, lI x2, lI x3] [] M) ∧ (¬ x3 ≤ 0 → AMi d iX10_draws [.ref 77] M (fun r3 M3 => AMi d iX10_passes [.ref 77, .int r3] M3 (fun r4 M4 => AX10_soonest (d + 1) Q 44 [lR 77, lI x1, lI x2, lI x3] [] M4)))))) : AX10_soonest (d + 1) Q 19 [lR 77, lI x1, lI x2, lI x3] [] M := by
  refine aw_iload_n dX10_soonest_19 rfl rfl ?_
  refine aw_bipush (v := 60) dX10_soonest_20 (by decide) ?_
  refine aw_icmp_gt (tgt := 74) dX10_soonest_22 (by decide) (fun z => ?_) (fun z => ?_)
  · replace h := h.1 z
    refine aw_aload_n dX10_soonest_74 rfl rfl ?_
    refine aw_callV (mi := iX10_again) (av := []) (st := []) dX10_soonest_75 ml_X10_348 kX10_again (by decide) ce_77 clX10 rfl rfl rfl (Nat.le_of_ble_eq_true rfl) (AM.mono h (fun r9 M1 h => ?_))
    obtain ⟨rfl, h⟩ := h
    refine aw_iload_n dX10_soonest_78 rfl rfl ?_
    exact aw_iret dX10_soonest_79 rfl rfl h
  · replace h := h.2 z
    refine aw_iload_n dX10_soonest_25 rfl rfl ?_
    refine aw_bipush (v := (-2)) dX10_soonest_26 (by decide) ?_
    refine aw_icmp_ne (tgt := 74) dX10_soonest_28 (by decide) (fun z => ?_) (fun z => ?_)
    · replace h := h.1 z
      refine aw_aload_n dX10_soonest_74 rfl rfl ?_
      refine aw_callV (mi := iX10_again) (av := []) (st := []) dX10_soonest_75 ml_X10_348 kX10_again (by decide) ce_77 clX10 rfl rfl rfl (Nat.le_of_ble_eq_true rfl) (AM.mono h (fun r9 M2 h => ?_))
      obtain ⟨rfl, h⟩ := h
      refine aw_iload_n dX10_soonest_78 rfl rfl ?_
      exact aw_iret dX10_soonest_79 rfl rfl h
    · replace h := h.2 z
      refine aw_iload_n dX10_soonest_31 rfl rfl ?_
      refine aw_if_le (tgt := 44) dX10_soonest_32 (by decide) (fun z => ?_) (fun z => ?_)
      · replace h := h.1 z
        exact h
      · replace h := h.2 z
        refine aw_aload_n dX10_soonest_35 rfl rfl ?_
        refine aw_aload_n dX10_soonest_36 rfl rfl ?_
        refine aw_callV (mi := iX10_draws) (av := []) (st := [.ref 77]) dX10_soonest_37 ml_X10_317 kX10_draws (by decide) ce_77 clX10 rfl rfl rfl (Nat.le_of_ble_eq_true rfl) (AM.mono h (fun r9 M3 h => ?_))
        obtain ⟨r3, rfl, h⟩ := h
        refine aw_callV (mi := iX10_passes) (av := [.int r3]) (st := []) dX10_soonest_40 ml_X10_320 kX10_passes (by decide) ce_77 clX10 rfl rfl rfl (Nat.le_of_ble_eq_true rfl) (AM.mono h (fun r9 M4 h => ?_))
        obtain ⟨r4, rfl, h⟩ := h
        refine aw_pop dX10_soonest_43 rfl ?_
        exact h
theorem bX10_soonest_44 {d : Nat} {Q : Option Int32 → Mem → Prop} (M : Mem) (x1 x2 x3 : Int32) (h : AMv d iX10_laysSteps [.ref 77, .int 0] M (fun M1 => (vp_in x1 12) ∧ (AMi d iX10_holdsBy [.ref 77, .int (M1 99 (ix x1)), .int (M1 77 1)] M1 (fun r2 M2 => (r2 = 0 → AX10_soonest (d + 1) Q 19 [lR 77, lI x1, lI x2, lI (x3 + 1)] [] M2) ∧ (¬ r2 = 0 → AX10_soonest (d + 1) Q 19 [lR 77, lI x1, lI x3, lI (x3 + 1)] [] M2))))) : AX10_soonest (d + 1) Q 44 [lR 77, lI x1, lI x2, lI x3] [] M := by
  refine aw_aload_n dX10_soonest_44 rfl rfl ?_
  refine aw_iconst (v := 0) dX10_soonest_45 (by decide) ?_
  refine aw_callV (mi := iX10_laysSteps) (av := [.int 0]) (st := []) dX10_soonest_46 ml_X10_295 kX10_laysSteps (by decide) ce_77 clX10 rfl rfl rfl (Nat.le_of_ble_eq_true rfl) (AM.mono h (fun r9 M1 h => ?_))
  obtain ⟨rfl, h⟩ := h
  refine aw_aload_n dX10_soonest_49 rfl rfl ?_
  refine aw_aload_n dX10_soonest_50 rfl rfl ?_
  refine aw_getf dX10_soonest_51 fl_X10_74 (by decide) ce_77 rfl (v := .ref 99) rfl ?_
  refine aw_iload_n dX10_soonest_54 rfl rfl ?_
  obtain ⟨h9, h⟩ := h
  refine aw_iald dX10_soonest_55 (by decide) ce_99 h9 ?_
  refine aw_aload_n dX10_soonest_56 rfl rfl ?_
  refine aw_getf dX10_soonest_57 fl_X10_145 (by decide) ce_77 rfl (v := .int (M1 77 1)) rfl ?_
  refine aw_callV (mi := iX10_holdsBy) (av := [.int (M1 99 (ix x1)), .int (M1 77 1)]) (st := []) dX10_soonest_60 ml_X10_307 kX10_holdsBy (by decide) ce_77 clX10 rfl rfl rfl (Nat.le_of_ble_eq_true rfl) (AM.mono h (fun r9 M2 h => ?_))
  obtain ⟨r2, rfl, h⟩ := h
  refine aw_if_eq (tgt := 68) dX10_soonest_63 (by decide) (fun z => ?_) (fun z => ?_)
  · replace h := h.1 z
    refine aw_iinc (y := 1) (L2 := [lR 77, lI x1, lI x2, lI (x3 + 1)]) dX10_soonest_68 rfl (by decide) (by decide) rfl ?_
    refine aw_goto (tgt := 19) dX10_soonest_71 (by decide) ?_
    exact h
  · replace h := h.2 z
    refine aw_iload_n dX10_soonest_66 rfl rfl ?_
    refine aw_istore_n (L2 := [lR 77, lI x1, lI x3, lI x3]) dX10_soonest_67 rfl (by decide) rfl ?_
    refine aw_iinc (y := 1) (L2 := [lR 77, lI x1, lI x3, lI (x3 + 1)]) dX10_soonest_68 rfl (by decide) (by decide) rfl ?_
    refine aw_goto (tgt := 19) dX10_soonest_71 (by decide) ?_
    exact h
abbrev AX10_canChoose (d : Nat) (Q : Option Int32 → Mem → Prop) (pc : Nat) (L : List (Option Value)) (st : List Value) (M : Mem) : Prop := AW none RX10 cX10_canChoose 3 (some .boolean) d Q pc L st M
theorem eX10_canChoose {d : Nat} {Q : Option Int32 → Mem → Prop} (M : Mem) (x1 x2 : Int32) (h : AX10_canChoose d Q 0 [lR 77, lI x1, lI x2] [] M) : AM d iX10_canChoose [.ref 77, .int x1, .int x2] M Q := AM.of2 (by decide) rfl rfl h
theorem bX10_canChoose_0 {d : Nat} {Q : Option Int32 → Mem → Prop} (M : Mem) (x1 x2 : Int32) (h : (vp_in x1 5) ∧ ((vp_in (x1 + 1) 5) ∧ ((vp_in x1 5) ∧ ((vp_in (x1 + 1) 5) ∧ ((¬ x2 = (-1) → ((isPV ((wr (wr M 108 (ix (x1 + 1)) (M 108 (ix x1))) 109 (ix (x1 + 1)) (M 109 (ix x1))) 77 0) x2) = 0 → Q (some 0) (wr (wr M 108 (ix (x1 + 1)) (M 108 (ix x1))) 109 (ix (x1 + 1)) (M 109 (ix x1)))) ∧ (¬ (isPV ((wr (wr M 108 (ix (x1 + 1)) (M 108 (ix x1))) 109 (ix (x1 + 1)) (M 109 (ix x1))) 77 0) x2) = 0 → (vp_in x1 5) ∧ ((vp_in x1 5) ∧ (((hasV (((wr M 108 (ix (x1 + 1)) (M 108 (ix x1))) 108 (ix x1)) ||| ((wr (wr M 108 (ix (x1 + 1)) (M 108 (ix x1))) 109 (ix (x1 + 1)) (M 109 (ix x1))) 109 (ix x1))) x2) = 0 → (¬ (x1 - x1 / 2 * 2) = 0 → (vp_in x1 5) ∧ (AX10_canChoose (d + 1) Q 87 [lR 77, lI x1, lI x2] [.int ((wr (wr M 108 (ix (x1 + 1)) (M 108 (ix x1))) 109 (ix (x1 + 1)) (M 109 (ix x1))) 109 (ix x1)), .ref 77] (wr (wr M 108 (ix (x1 + 1)) (M 108 (ix x1))) 109 (ix (x1 + 1)) (M 109 (ix x1))))) ∧ ((x1 - x1 / 2 * 2) = 0 → (vp_in x1 5) ∧ (AX10_canChoose (d + 1) Q 87 [lR 77, lI x1, lI x2] [.int ((wr M 108 (ix (x1 + 1)) (M 108 (ix x1))) 108 (ix x1)), .ref 77] (wr (wr M 108 (ix (x1 + 1)) (M 108 (ix x1))) 109 (ix (x1 + 1)) (M 109 (ix x1)))))) ∧ (¬ (hasV (((wr M 108 (ix (x1 + 1)) (M 108 (ix x1))) 108 (ix x1)) ||| ((wr (wr M 108 (ix (x1 + 1)) (M 108 (ix x1))) 109 (ix (x1 + 1)) (M 109 (ix x1))) 109 (ix x1))) x2) = 0 → Q (some 0) (wr (wr M 108 (ix (x1 + 1)) (M 108 (ix x1))) 109 (ix (x1 + 1)) (M 109 (ix x1)))))))) ∧ (x2 = (-1) → Q (some 1) (wr (wr M 108 (ix (x1 + 1)) (M 108 (ix x1))) 109 (ix (x1 + 1)) (M 109 (ix x1))))))))) : AX10_canChoose (d + 1) Q 0 [lR 77, lI x1, lI x2] [] M := by
  refine aw_aload_n dX10_canChoose_0 rfl rfl ?_
  refine aw_getf dX10_canChoose_1 fl_X10_101 (by decide) ce_77 rfl (v := .ref 108) rfl ?_
  refine aw_iload_n dX10_canChoose_4 rfl rfl ?_
  refine aw_iconst (v := 1) dX10_canChoose_5 (by decide) ?_
  refine aw_iadd dX10_canChoose_6 ?_
  refine aw_aload_n dX10_canChoose_7 rfl rfl ?_
  refine aw_getf dX10_canChoose_8 fl_X10_101 (by decide) ce_77 rfl (v := .ref 108) rfl ?_
  refine aw_iload_n dX10_canChoose_11 rfl rfl ?_
  obtain ⟨h9, h⟩ := h
  refine aw_iald dX10_canChoose_12 (by decide) ce_108 h9 ?_
  obtain ⟨h9, h⟩ := h
  refine aw_iast dX10_canChoose_13 (by decide) ce_108 h9 ?_
  refine aw_aload_n dX10_canChoose_14 rfl rfl ?_
  refine aw_getf dX10_canChoose_15 fl_X10_104 (by decide) ce_77 rfl (v := .ref 109) rfl ?_
  refine aw_iload_n dX10_canChoose_18 rfl rfl ?_
  refine aw_iconst (v := 1) dX10_canChoose_19 (by decide) ?_
  refine aw_iadd dX10_canChoose_20 ?_
  refine aw_aload_n dX10_canChoose_21 rfl rfl ?_
  refine aw_getf dX10_canChoose_22 fl_X10_104 (by decide) ce_77 rfl (v := .ref 109) rfl ?_
  refine aw_iload_n dX10_canChoose_25 rfl rfl ?_
  obtain ⟨h9, h⟩ := h
  refine aw_iald dX10_canChoose_26 (by decide) ce_109 h9 ?_
  obtain ⟨h9, h⟩ := h
  refine aw_iast dX10_canChoose_27 (by decide) ce_109 h9 ?_
  refine aw_iload_n dX10_canChoose_28 rfl rfl ?_
  refine aw_iconst (v := (-1)) dX10_canChoose_29 (by decide) ?_
  refine aw_icmp_ne (tgt := 35) dX10_canChoose_30 (by decide) (fun z => ?_) (fun z => ?_)
  · replace h := h.1 z
    refine aw_aload_n dX10_canChoose_35 rfl rfl ?_
    refine aw_iload_n dX10_canChoose_36 rfl rfl ?_
    refine aw_callV (mi := iX10_isPerson) (av := [.int x2]) (st := []) dX10_canChoose_37 ml_X10_141 kX10_isPerson (by decide) ce_77 clX10 rfl rfl rfl (Nat.le_of_ble_eq_true rfl) (AM.mono (p_X10_isPerson _) (fun r9 M9 e9 => ?_))
    obtain ⟨rfl, rfl⟩ := e9
    refine aw_if_eq (tgt := 63) dX10_canChoose_40 (by decide) (fun z => ?_) (fun z => ?_)
    · replace h := h.1 z
      refine aw_iconst (v := 0) dX10_canChoose_63 (by decide) ?_
      exact aw_iret dX10_canChoose_64 rfl (nar_b (by decide)) h
    · replace h := h.2 z
      refine aw_aload_n dX10_canChoose_43 rfl rfl ?_
      refine aw_getf dX10_canChoose_44 fl_X10_101 (by decide) ce_77 rfl (v := .ref 108) rfl ?_
      refine aw_iload_n dX10_canChoose_47 rfl rfl ?_
      obtain ⟨h9, h⟩ := h
      refine aw_iald dX10_canChoose_48 (by decide) ce_108 h9 ?_
      refine aw_aload_n dX10_canChoose_49 rfl rfl ?_
      refine aw_getf dX10_canChoose_50 fl_X10_104 (by decide) ce_77 rfl (v := .ref 109) rfl ?_
      refine aw_iload_n dX10_canChoose_53 rfl rfl ?_
      obtain ⟨h9, h⟩ := h
      refine aw_iald dX10_canChoose_54 (by decide) ce_109 h9 ?_
      refine aw_ior dX10_canChoose_55 ?_
      refine aw_iload_n dX10_canChoose_56 rfl rfl ?_
      refine aw_callS (mi := iX10_has) (av := [.int (((wr M 108 (ix (x1 + 1)) (M 108 (ix x1))) 108 (ix x1)) ||| ((wr (wr M 108 (ix (x1 + 1)) (M 108 (ix x1))) 109 (ix (x1 + 1)) (M 109 (ix x1))) 109 (ix x1))), .int x2]) (st := []) dX10_canChoose_57 ml_X10_148 kX10_has rfl rfl (Nat.le_of_ble_eq_true rfl) (AM.mono (p_X10_has _ _) (fun r9 M9 e9 => ?_))
      obtain ⟨rfl, rfl⟩ := e9
      refine aw_if_eq (tgt := 65) dX10_canChoose_60 (by decide) (fun z => ?_) (fun z => ?_)
      · replace h := h.1 z
        refine aw_aload_n dX10_canChoose_65 rfl rfl ?_
        refine aw_iload_n dX10_canChoose_66 rfl rfl ?_
        refine aw_iconst (v := 2) dX10_canChoose_67 (by decide) ?_
        refine aw_irem dX10_canChoose_68 (by decide) ?_
        refine aw_if_ne (tgt := 81) dX10_canChoose_69 (by decide) (fun z => ?_) (fun z => ?_)
        · replace h := h.1 z
          refine aw_aload_n dX10_canChoose_81 rfl rfl ?_
          refine aw_getf dX10_canChoose_82 fl_X10_104 (by decide) ce_77 rfl (v := .ref 109) rfl ?_
          refine aw_iload_n dX10_canChoose_85 rfl rfl ?_
          obtain ⟨h9, h⟩ := h
          refine aw_iald dX10_canChoose_86 (by decide) ce_109 h9 ?_
          exact h
        · replace h := h.2 z
          refine aw_aload_n dX10_canChoose_72 rfl rfl ?_
          refine aw_getf dX10_canChoose_73 fl_X10_101 (by decide) ce_77 rfl (v := .ref 108) rfl ?_
          refine aw_iload_n dX10_canChoose_76 rfl rfl ?_
          obtain ⟨h9, h⟩ := h
          refine aw_iald dX10_canChoose_77 (by decide) ce_108 h9 ?_
          refine aw_goto (tgt := 87) dX10_canChoose_78 (by decide) ?_
          exact h
      · replace h := h.2 z
        refine aw_iconst (v := 0) dX10_canChoose_63 (by decide) ?_
        exact aw_iret dX10_canChoose_64 rfl (nar_b (by decide)) h
  · replace h := h.2 z
    refine aw_iconst (v := 1) dX10_canChoose_33 (by decide) ?_
    exact aw_iret dX10_canChoose_34 rfl (nar_b (by decide)) h
theorem bX10_canChoose_87 {d : Nat} {Q : Option Int32 → Mem → Prop} (M : Mem) (x1 x2 s0 : Int32) (h : AMi d iX10_leastBy [.ref 77, .int s0, .int x2] M (fun r1 M1 => (¬ r1 = 1000000000 → (¬ (x1 - x1 / 2 * 2) = 0 → (vp_in (x1 + 1) 5) ∧ ((vp_in (x1 + 1) 5) ∧ (Q (some 1) (wr M1 109 (ix (x1 + 1)) ((M1 109 (ix (x1 + 1))) ||| ((1 : Int32) <<< (x2 &&& 31))))))) ∧ ((x1 - x1 / 2 * 2) = 0 → (vp_in (x1 + 1) 5) ∧ ((vp_in (x1 + 1) 5) ∧ (Q (some 1) (wr M1 108 (ix (x1 + 1)) ((M1 108 (ix (x1 + 1))) ||| ((1 : Int32) <<< (x2 &&& 31)))))))) ∧ (r1 = 1000000000 → Q (some 0) M1))) : AX10_canChoose (d + 1) Q 87 [lR 77, lI x1, lI x2] [.int s0, .ref 77] M := by
  refine aw_iload_n dX10_canChoose_87 rfl rfl ?_
  refine aw_callV (mi := iX10_leastBy) (av := [.int s0, .int x2]) (st := []) dX10_canChoose_88 ml_X10_298 kX10_leastBy (by decide) ce_77 clX10 rfl rfl rfl (Nat.le_of_ble_eq_true rfl) (AM.mono h (fun r9 M1 h => ?_))
  obtain ⟨r1, rfl, h⟩ := h
  refine aw_ldcw dX10_canChoose_91 kc_X10_273 ?_
  refine aw_icmp_ne (tgt := 99) dX10_canChoose_94 (by decide) (fun z => ?_) (fun z => ?_)
  · replace h := h.1 z
    refine aw_iload_n dX10_canChoose_99 rfl rfl ?_
    refine aw_iconst (v := 2) dX10_canChoose_100 (by decide) ?_
    refine aw_irem dX10_canChoose_101 (by decide) ?_
    refine aw_if_ne (tgt := 128) dX10_canChoose_102 (by decide) (fun z => ?_) (fun z => ?_)
    · replace h := h.1 z
      refine aw_aload_n dX10_canChoose_128 rfl rfl ?_
      refine aw_getf dX10_canChoose_129 fl_X10_104 (by decide) ce_77 rfl (v := .ref 109) rfl ?_
      refine aw_iload_n dX10_canChoose_132 rfl rfl ?_
      refine aw_iconst (v := 1) dX10_canChoose_133 (by decide) ?_
      refine aw_iadd dX10_canChoose_134 ?_
      refine aw_aload_n dX10_canChoose_135 rfl rfl ?_
      refine aw_getf dX10_canChoose_136 fl_X10_104 (by decide) ce_77 rfl (v := .ref 109) rfl ?_
      refine aw_iload_n dX10_canChoose_139 rfl rfl ?_
      refine aw_iconst (v := 1) dX10_canChoose_140 (by decide) ?_
      refine aw_iadd dX10_canChoose_141 ?_
      obtain ⟨h9, h⟩ := h
      refine aw_iald dX10_canChoose_142 (by decide) ce_109 h9 ?_
      refine aw_iconst (v := 1) dX10_canChoose_143 (by decide) ?_
      refine aw_iload_n dX10_canChoose_144 rfl rfl ?_
      refine aw_ishl dX10_canChoose_145 ?_
      refine aw_ior dX10_canChoose_146 ?_
      obtain ⟨h9, h⟩ := h
      refine aw_iast dX10_canChoose_147 (by decide) ce_109 h9 ?_
      refine aw_iconst (v := 1) dX10_canChoose_148 (by decide) ?_
      exact aw_iret dX10_canChoose_149 rfl (nar_b (by decide)) h
    · replace h := h.2 z
      refine aw_aload_n dX10_canChoose_105 rfl rfl ?_
      refine aw_getf dX10_canChoose_106 fl_X10_101 (by decide) ce_77 rfl (v := .ref 108) rfl ?_
      refine aw_iload_n dX10_canChoose_109 rfl rfl ?_
      refine aw_iconst (v := 1) dX10_canChoose_110 (by decide) ?_
      refine aw_iadd dX10_canChoose_111 ?_
      refine aw_aload_n dX10_canChoose_112 rfl rfl ?_
      refine aw_getf dX10_canChoose_113 fl_X10_101 (by decide) ce_77 rfl (v := .ref 108) rfl ?_
      refine aw_iload_n dX10_canChoose_116 rfl rfl ?_
      refine aw_iconst (v := 1) dX10_canChoose_117 (by decide) ?_
      refine aw_iadd dX10_canChoose_118 ?_
      obtain ⟨h9, h⟩ := h
      refine aw_iald dX10_canChoose_119 (by decide) ce_108 h9 ?_
      refine aw_iconst (v := 1) dX10_canChoose_120 (by decide) ?_
      refine aw_iload_n dX10_canChoose_121 rfl rfl ?_
      refine aw_ishl dX10_canChoose_122 ?_
      refine aw_ior dX10_canChoose_123 ?_
      obtain ⟨h9, h⟩ := h
      refine aw_iast dX10_canChoose_124 (by decide) ce_108 h9 ?_
      refine aw_goto (tgt := 148) dX10_canChoose_125 (by decide) ?_
      refine aw_iconst (v := 1) dX10_canChoose_148 (by decide) ?_
      exact aw_iret dX10_canChoose_149 rfl (nar_b (by decide)) h
  · replace h := h.2 z
    refine aw_iconst (v := 0) dX10_canChoose_97 (by decide) ?_
    exact aw_iret dX10_canChoose_98 rfl (nar_b (by decide)) h
abbrev AX10_tells (d : Nat) (Q : Option Int32 → Mem → Prop) (pc : Nat) (L : List (Option Value)) (st : List Value) (M : Mem) : Prop := AW none RX10 cX10_tells 4 none d Q pc L st M
theorem eX10_tells {d : Nat} {Q : Option Int32 → Mem → Prop} (M : Mem) (x1 x2 : Int32) (h : AX10_tells d Q 0 [lR 77, lI x1, lI x2, none] [] M) : AM d iX10_tells [.ref 77, .int x1, .int x2] M Q := AM.of2 (by decide) rfl rfl h
theorem bX10_tells_0 {d : Nat} {Q : Option Int32 → Mem → Prop} (M : Mem) (x1 x2 : Int32) (h : (vp_in x1 5) ∧ (((M 107 (ix x1)) = 1000000000 → AX10_tells d Q 41 [lR 77, lI x1, lI x2, none] [] M) ∧ (¬ (M 107 (ix x1)) = 1000000000 → (¬ (x1 - x1 / 2 * 2) = 0 → (vp_in x1 5) ∧ (((M 107 (ix x1)) ≤ x2 → AX10_tells d Q 45 [lR 77, lI x1, lI x2, none] [] M) ∧ (¬ (M 107 (ix x1)) ≤ x2 → AX10_tells d Q 41 [lR 77, lI x1, lI x2, none] [] M))) ∧ ((x1 - x1 / 2 * 2) = 0 → (vp_in x1 5) ∧ ((x2 ≤ (M 107 (ix x1)) → AX10_tells d Q 45 [lR 77, lI x1, lI x2, none] [] M) ∧ (¬ x2 ≤ (M 107 (ix x1)) → AX10_tells d Q 41 [lR 77, lI x1, lI x2, none] [] M)))))) : AX10_tells d Q 0 [lR 77, lI x1, lI x2, none] [] M := by
  refine aw_aload_n dX10_tells_0 rfl rfl ?_
  refine aw_getf dX10_tells_1 fl_X10_98 (by decide) ce_77 rfl (v := .ref 107) rfl ?_
  refine aw_iload_n dX10_tells_4 rfl rfl ?_
  obtain ⟨h9, h⟩ := h
  refine aw_iald dX10_tells_5 (by decide) ce_107 h9 ?_
  refine aw_ldcw dX10_tells_6 kc_X10_273 ?_
  refine aw_icmp_eq (tgt := 41) dX10_tells_9 (by decide) (fun z => ?_) (fun z => ?_)
  · replace h := h.1 z
    exact h
  · replace h := h.2 z
    refine aw_iload_n dX10_tells_12 rfl rfl ?_
    refine aw_iconst (v := 2) dX10_tells_13 (by decide) ?_
    refine aw_irem dX10_tells_14 (by decide) ?_
    refine aw_if_ne (tgt := 31) dX10_tells_15 (by decide) (fun z => ?_) (fun z => ?_)
    · replace h := h.1 z
      refine aw_iload_n dX10_tells_31 rfl rfl ?_
      refine aw_aload_n dX10_tells_32 rfl rfl ?_
      refine aw_getf dX10_tells_33 fl_X10_98 (by decide) ce_77 rfl (v := .ref 107) rfl ?_
      refine aw_iload_n dX10_tells_36 rfl rfl ?_
      obtain ⟨h9, h⟩ := h
      refine aw_iald dX10_tells_37 (by decide) ce_107 h9 ?_
      refine aw_icmp_ge (tgt := 45) dX10_tells_38 (by decide) (fun z => ?_) (fun z => ?_)
      · replace h := h.1 z
        exact h
      · replace h := h.2 z
        exact h
    · replace h := h.2 z
      refine aw_iload_n dX10_tells_18 rfl rfl ?_
      refine aw_aload_n dX10_tells_19 rfl rfl ?_
      refine aw_getf dX10_tells_20 fl_X10_98 (by decide) ce_77 rfl (v := .ref 107) rfl ?_
      refine aw_iload_n dX10_tells_23 rfl rfl ?_
      obtain ⟨h9, h⟩ := h
      refine aw_iald dX10_tells_24 (by decide) ce_107 h9 ?_
      refine aw_icmp_le (tgt := 45) dX10_tells_25 (by decide) (fun z => ?_) (fun z => ?_)
      · replace h := h.1 z
        exact h
      · replace h := h.2 z
        refine aw_goto (tgt := 41) dX10_tells_28 (by decide) ?_
        exact h
theorem bX10_tells_41 {d : Nat} {Q : Option Int32 → Mem → Prop} (M : Mem) (x1 x2 : Int32) (h : AX10_tells d Q 46 [lR 77, lI x1, lI x2, none] [.int 1] M) : AX10_tells d Q 41 [lR 77, lI x1, lI x2, none] [] M := by
  refine aw_iconst (v := 1) dX10_tells_41 (by decide) ?_
  refine aw_goto (tgt := 46) dX10_tells_42 (by decide) ?_
  exact h
theorem bX10_tells_45 {d : Nat} {Q : Option Int32 → Mem → Prop} (M : Mem) (x1 x2 : Int32) (h : AX10_tells d Q 46 [lR 77, lI x1, lI x2, none] [.int 0] M) : AX10_tells d Q 45 [lR 77, lI x1, lI x2, none] [] M := by
  refine aw_iconst (v := 0) dX10_tells_45 (by decide) ?_
  exact h
theorem bX10_tells_46 {d : Nat} {Q : Option Int32 → Mem → Prop} (M : Mem) (x1 x2 s0 : Int32) (h : (¬ s0 = 0 → (vp_in x1 5) ∧ ((¬ x1 = 0 → Q none (wr M 107 (ix x1) x2)) ∧ (x1 = 0 → Q none (wr (wr M 107 (ix x1) x2) 77 49 (M 106 0))))) ∧ (s0 = 0 → Q none M)) : AX10_tells d Q 46 [lR 77, lI x1, lI x2, none] [.int s0] M := by
  refine aw_istore_n (L2 := [lR 77, lI x1, lI x2, lI s0]) dX10_tells_46 rfl (by decide) rfl ?_
  refine aw_iload_n dX10_tells_47 rfl rfl ?_
  refine aw_if_ne (tgt := 52) dX10_tells_48 (by decide) (fun z => ?_) (fun z => ?_)
  · replace h := h.1 z
    refine aw_aload_n dX10_tells_52 rfl rfl ?_
    refine aw_getf dX10_tells_53 fl_X10_98 (by decide) ce_77 rfl (v := .ref 107) rfl ?_
    refine aw_iload_n dX10_tells_56 rfl rfl ?_
    refine aw_iload_n dX10_tells_57 rfl rfl ?_
    obtain ⟨h9, h⟩ := h
    refine aw_iast dX10_tells_58 (by decide) ce_107 h9 ?_
    refine aw_iload_n dX10_tells_59 rfl rfl ?_
    refine aw_if_ne (tgt := 73) dX10_tells_60 (by decide) (fun z => ?_) (fun z => ?_)
    · replace h := h.1 z
      exact aw_vret dX10_tells_73 rfl h
    · replace h := h.2 z
      refine aw_aload_n dX10_tells_63 rfl rfl ?_
      refine aw_aload_n dX10_tells_64 rfl rfl ?_
      refine aw_getf dX10_tells_65 fl_X10_95 (by decide) ce_77 rfl (v := .ref 106) rfl ?_
      refine aw_iconst (v := 0) dX10_tells_68 (by decide) ?_
      refine aw_iald dX10_tells_69 (by decide) ce_106 (by unfold vp_in; decide) ?_
      refine aw_putf dX10_tells_70 fp_X10_366 (by decide) ce_77 rfl rfl rfl ?_
      exact aw_vret dX10_tells_73 rfl h
  · replace h := h.2 z
    exact aw_vret dX10_tells_51 rfl h
abbrev AX10_endsAs (d : Nat) (Q : Option Int32 → Mem → Prop) (pc : Nat) (L : List (Option Value)) (st : List Value) (M : Mem) : Prop := AW none RX10 cX10_endsAs 4 (some .int) d Q pc L st M
theorem eX10_endsAs {d : Nat} {Q : Option Int32 → Mem → Prop} (M : Mem) (x1 x2 x3 : Int32) (h : AX10_endsAs d Q 0 [lR 77, lI x1, lI x2, lI x3] [] M) : AM d iX10_endsAs [.ref 77, .int x1, .int x2, .int x3] M Q := AM.of2 (by decide) rfl rfl h
theorem bX10_endsAs_0 {d : Nat} {Q : Option Int32 → Mem → Prop} (M : Mem) (x1 x2 x3 : Int32) (h : (vp_in x1 12) ∧ ((vp_in x3 5) ∧ (AMi d iX10_holdsBy [.ref 77, .int (M 99 (ix x1)), .int (M 108 (ix x3))] M (fun r1 M1 => (r1 = 0 → AX10_endsAs (d + 1) Q 24 [lR 77, none, lI x2, lI x3] [.int 0] M1) ∧ (¬ r1 = 0 → AX10_endsAs (d + 1) Q 24 [lR 77, none, lI x2, lI x3] [.int 1] M1))))) : AX10_endsAs (d + 1) Q 0 [lR 77, lI x1, lI x2, lI x3] [] M := by
  refine aw_aload_n dX10_endsAs_0 rfl rfl ?_
  refine aw_aload_n dX10_endsAs_1 rfl rfl ?_
  refine aw_getf dX10_endsAs_2 fl_X10_74 (by decide) ce_77 rfl (v := .ref 99) rfl ?_
  refine aw_iload_n dX10_endsAs_5 rfl rfl ?_
  obtain ⟨h9, h⟩ := h
  refine aw_iald dX10_endsAs_6 (by decide) ce_99 h9 ?_
  refine aw_aload_n dX10_endsAs_7 rfl rfl ?_
  refine aw_getf dX10_endsAs_8 fl_X10_101 (by decide) ce_77 rfl (v := .ref 108) rfl ?_
  refine aw_iload_n dX10_endsAs_11 rfl rfl ?_
  obtain ⟨h9, h⟩ := h
  refine aw_iald dX10_endsAs_12 (by decide) ce_108 h9 ?_
  refine aw_callV (mi := iX10_holdsBy) (av := [.int (M 99 (ix x1)), .int (M 108 (ix x3))]) (st := []) dX10_endsAs_13 ml_X10_307 kX10_holdsBy (by decide) ce_77 clX10 rfl rfl rfl (Nat.le_of_ble_eq_true rfl) (AM.mono h (fun r9 M1 h => ?_))
  obtain ⟨r1, rfl, h⟩ := h
  refine aw_if_eq (tgt := 23) dX10_endsAs_16 (by decide) (fun z => ?_) (fun z => ?_)
  · replace h := h.1 z
    refine aw_iconst (v := 0) dX10_endsAs_23 (by decide) ?_
    exact aw_less (less_k (less_d (less_k (less_k less_nil)))) h
  · replace h := h.2 z
    refine aw_iconst (v := 1) dX10_endsAs_19 (by decide) ?_
    refine aw_goto (tgt := 24) dX10_endsAs_20 (by decide) ?_
    exact aw_less (less_k (less_d (less_k (less_k less_nil)))) h
theorem bX10_endsAs_24 {d : Nat} {Q : Option Int32 → Mem → Prop} (M : Mem) (x2 x3 s0 : Int32) (h : (vp_in x2 12) ∧ ((vp_in x3 5) ∧ (AMi d iX10_holdsBy [.ref 77, .int (M 99 (ix x2)), .int (M 109 (ix x3))] M (fun r1 M1 => (r1 = 0 → Q (some (s0 - 0)) M1) ∧ (¬ r1 = 0 → Q (some (s0 - 1)) M1))))) : AX10_endsAs (d + 1) Q 24 [lR 77, none, lI x2, lI x3] [.int s0] M := by
  refine aw_aload_n dX10_endsAs_24 rfl rfl ?_
  refine aw_aload_n dX10_endsAs_25 rfl rfl ?_
  refine aw_getf dX10_endsAs_26 fl_X10_74 (by decide) ce_77 rfl (v := .ref 99) rfl ?_
  refine aw_iload_n dX10_endsAs_29 rfl rfl ?_
  obtain ⟨h9, h⟩ := h
  refine aw_iald dX10_endsAs_30 (by decide) ce_99 h9 ?_
  refine aw_aload_n dX10_endsAs_31 rfl rfl ?_
  refine aw_getf dX10_endsAs_32 fl_X10_104 (by decide) ce_77 rfl (v := .ref 109) rfl ?_
  refine aw_iload_n dX10_endsAs_35 rfl rfl ?_
  obtain ⟨h9, h⟩ := h
  refine aw_iald dX10_endsAs_36 (by decide) ce_109 h9 ?_
  refine aw_callV (mi := iX10_holdsBy) (av := [.int (M 99 (ix x2)), .int (M 109 (ix x3))]) (st := [.int s0]) dX10_endsAs_37 ml_X10_307 kX10_holdsBy (by decide) ce_77 clX10 rfl rfl rfl (Nat.le_of_ble_eq_true rfl) (AM.mono h (fun r9 M1 h => ?_))
  obtain ⟨r1, rfl, h⟩ := h
  refine aw_if_eq (tgt := 47) dX10_endsAs_40 (by decide) (fun z => ?_) (fun z => ?_)
  · replace h := h.1 z
    refine aw_iconst (v := 0) dX10_endsAs_47 (by decide) ?_
    refine aw_isub dX10_endsAs_48 ?_
    exact aw_iret dX10_endsAs_49 rfl rfl h
  · replace h := h.2 z
    refine aw_iconst (v := 1) dX10_endsAs_43 (by decide) ?_
    refine aw_goto (tgt := 48) dX10_endsAs_44 (by decide) ?_
    refine aw_isub dX10_endsAs_48 ?_
    exact aw_iret dX10_endsAs_49 rfl rfl h
abbrev AX10_plays (d : Nat) (Q : Option Int32 → Mem → Prop) (pc : Nat) (L : List (Option Value)) (st : List Value) (M : Mem) : Prop := AW none RX10 cX10_plays 5 none d Q pc L st M
theorem eX10_plays {d : Nat} {Q : Option Int32 → Mem → Prop} (M : Mem) (x1 x2 x3 : Int32) (h : AX10_plays d Q 0 [lR 77, lI x1, lI x2, lI x3, none] [] M) : AM d iX10_plays [.ref 77, .int x1, .int x2, .int x3] M Q := AM.of2 (by decide) rfl rfl h
theorem bX10_plays_0 {d : Nat} {Q : Option Int32 → Mem → Prop} (M : Mem) (x1 x2 x3 : Int32) (h : (vp_in x1 12) ∧ ((vp_in x2 12) ∧ (AX10_plays (d + 1) Q 44 [lR 77, lI x1, lI x2, lI x3, lI 0] [] (wr (wr (wr (wr M 108 0 (M 101 (ix x1))) 109 0 (M 101 (ix x2))) 106 0 (-2)) 107 0 1000000000)))) : AX10_plays (d + 1) Q 0 [lR 77, lI x1, lI x2, lI x3, none] [] M := by
  refine aw_aload_n dX10_plays_0 rfl rfl ?_
  refine aw_getf dX10_plays_1 fl_X10_101 (by decide) ce_77 rfl (v := .ref 108) rfl ?_
  refine aw_iconst (v := 0) dX10_plays_4 (by decide) ?_
  refine aw_aload_n dX10_plays_5 rfl rfl ?_
  refine aw_getf dX10_plays_6 fl_X10_80 (by decide) ce_77 rfl (v := .ref 101) rfl ?_
  refine aw_iload_n dX10_plays_9 rfl rfl ?_
  obtain ⟨h9, h⟩ := h
  refine aw_iald dX10_plays_10 (by decide) ce_101 h9 ?_
  refine aw_iast dX10_plays_11 (by decide) ce_108 (by unfold vp_in; decide) ?_
  refine aw_aload_n dX10_plays_12 rfl rfl ?_
  refine aw_getf dX10_plays_13 fl_X10_104 (by decide) ce_77 rfl (v := .ref 109) rfl ?_
  refine aw_iconst (v := 0) dX10_plays_16 (by decide) ?_
  refine aw_aload_n dX10_plays_17 rfl rfl ?_
  refine aw_getf dX10_plays_18 fl_X10_80 (by decide) ce_77 rfl (v := .ref 101) rfl ?_
  refine aw_iload_n dX10_plays_21 rfl rfl ?_
  obtain ⟨h9, h⟩ := h
  refine aw_iald dX10_plays_22 (by decide) ce_101 h9 ?_
  refine aw_iast dX10_plays_23 (by decide) ce_109 (by unfold vp_in; decide) ?_
  refine aw_iconst (v := 0) dX10_plays_24 (by decide) ?_
  refine aw_istore (L2 := [lR 77, lI x1, lI x2, lI x3, lI 0]) dX10_plays_25 (by decide) rfl ?_
  refine aw_aload_n dX10_plays_27 rfl rfl ?_
  refine aw_getf dX10_plays_28 fl_X10_95 (by decide) ce_77 rfl (v := .ref 106) rfl ?_
  refine aw_iconst (v := 0) dX10_plays_31 (by decide) ?_
  refine aw_bipush (v := (-2)) dX10_plays_32 (by decide) ?_
  refine aw_iast dX10_plays_34 (by decide) ce_106 (by unfold vp_in; decide) ?_
  refine aw_aload_n dX10_plays_35 rfl rfl ?_
  refine aw_getf dX10_plays_36 fl_X10_98 (by decide) ce_77 rfl (v := .ref 107) rfl ?_
  refine aw_iconst (v := 0) dX10_plays_39 (by decide) ?_
  refine aw_ldcw dX10_plays_40 kc_X10_273 ?_
  refine aw_iast dX10_plays_43 (by decide) ce_107 (by unfold vp_in; decide) ?_
  exact h
theorem bX10_plays_44 {d : Nat} {Q : Option Int32 → Mem → Prop} (M : Mem) (x1 x2 x3 x4 : Int32) (h : (x4 < 0 → Q none M) ∧ (¬ x4 < 0 → (vp_in x4 5) ∧ ((vp_in x4 5) ∧ ((vp_in x4 5) ∧ ((((wr M 106 (ix x4) ((M 106 (ix x4)) + 1)) 106 (ix x4)) < (M 77 0) → (vp_in x4 5) ∧ (AMi d iX10_canChoose [.ref 77, .int x4, .int ((wr M 106 (ix x4) ((M 106 (ix x4)) + 1)) 106 (ix x4))] (wr M 106 (ix x4) ((M 106 (ix x4)) + 1)) (fun r1 M1 => (¬ r1 = 0 → (¬ (x4 + 1) = x3 → (vp_in (x4 + 1) 5) ∧ ((vp_in (x4 + 1) 5) ∧ (AX10_plays (d + 1) Q 44 [lR 77, lI x1, lI x2, lI x3, lI (x4 + 1)] [] (wr (wr M1 106 (ix (x4 + 1)) (-2)) 107 (ix (x4 + 1)) 1000000000)))) ∧ ((x4 + 1) = x3 → AMi d iX10_endsAs [.ref 77, .int x1, .int x2, .int x3] M1 (fun r2 M2 => AMv d iX10_tells [.ref 77, .int x4, .int r2] M2 (fun M3 => AX10_plays (d + 1) Q 44 [lR 77, lI x1, lI x2, lI x3, lI x4] [] M3)))) ∧ (r1 = 0 → AX10_plays (d + 1) Q 44 [lR 77, lI x1, lI x2, lI x3, lI x4] [] M1)))) ∧ (¬ ((wr M 106 (ix x4) ((M 106 (ix x4)) + 1)) 106 (ix x4)) < (M 77 0) → ((x4 - 1) < 0 → AX10_plays (d + 1) Q 44 [lR 77, lI x1, lI x2, lI x3, lI (x4 - 1)] [] (wr M 106 (ix x4) ((M 106 (ix x4)) + 1))) ∧ (¬ (x4 - 1) < 0 → (vp_in ((x4 - 1) + 1) 5) ∧ (AMv d iX10_tells [.ref 77, .int (x4 - 1), .int (M 107 (ix ((x4 - 1) + 1)))] (wr M 106 (ix x4) ((M 106 (ix x4)) + 1)) (fun M4 => AX10_plays (d + 1) Q 44 [lR 77, lI x1, lI x2, lI x3, lI (x4 - 1)] [] M4))))))))) : AX10_plays (d + 1) Q 44 [lR 77, lI x1, lI x2, lI x3, lI x4] [] M := by
  refine aw_iload dX10_plays_44 rfl ?_
  refine aw_if_lt (tgt := 179) dX10_plays_46 (by decide) (fun z => ?_) (fun z => ?_)
  · replace h := h.1 z
    exact aw_vret dX10_plays_179 rfl h
  · replace h := h.2 z
    refine aw_aload_n dX10_plays_49 rfl rfl ?_
    refine aw_getf dX10_plays_50 fl_X10_95 (by decide) ce_77 rfl (v := .ref 106) rfl ?_
    refine aw_iload dX10_plays_53 rfl ?_
    refine aw_aload_n dX10_plays_55 rfl rfl ?_
    refine aw_getf dX10_plays_56 fl_X10_95 (by decide) ce_77 rfl (v := .ref 106) rfl ?_
    refine aw_iload dX10_plays_59 rfl ?_
    obtain ⟨h9, h⟩ := h
    refine aw_iald dX10_plays_61 (by decide) ce_106 h9 ?_
    refine aw_iconst (v := 1) dX10_plays_62 (by decide) ?_
    refine aw_iadd dX10_plays_63 ?_
    obtain ⟨h9, h⟩ := h
    refine aw_iast dX10_plays_64 (by decide) ce_106 h9 ?_
    refine aw_aload_n dX10_plays_65 rfl rfl ?_
    refine aw_getf dX10_plays_66 fl_X10_95 (by decide) ce_77 rfl (v := .ref 106) rfl ?_
    refine aw_iload dX10_plays_69 rfl ?_
    obtain ⟨h9, h⟩ := h
    refine aw_iald dX10_plays_71 (by decide) ce_106 h9 ?_
    refine aw_aload_n dX10_plays_72 rfl rfl ?_
    refine aw_getf dX10_plays_73 fl_X10_138 (by decide) ce_77 rfl (v := .int (M 77 0)) rfl ?_
    refine aw_icmp_lt (tgt := 108) dX10_plays_76 (by decide) (fun z => ?_) (fun z => ?_)
    · replace h := h.1 z
      refine aw_aload_n dX10_plays_108 rfl rfl ?_
      refine aw_iload dX10_plays_109 rfl ?_
      refine aw_aload_n dX10_plays_111 rfl rfl ?_
      refine aw_getf dX10_plays_112 fl_X10_95 (by decide) ce_77 rfl (v := .ref 106) rfl ?_
      refine aw_iload dX10_plays_115 rfl ?_
      obtain ⟨h9, h⟩ := h
      refine aw_iald dX10_plays_117 (by decide) ce_106 h9 ?_
      refine aw_callV (mi := iX10_canChoose) (av := [.int x4, .int ((wr M 106 (ix x4) ((M 106 (ix x4)) + 1)) 106 (ix x4))]) (st := []) dX10_plays_118 ml_X10_372 kX10_canChoose (by decide) ce_77 clX10 rfl rfl rfl (Nat.le_of_ble_eq_true rfl) (AM.mono h (fun r9 M1 h => ?_))
      obtain ⟨r1, rfl, h⟩ := h
      refine aw_if_ne (tgt := 127) dX10_plays_121 (by decide) (fun z => ?_) (fun z => ?_)
      · replace h := h.1 z
        refine aw_iload dX10_plays_127 rfl ?_
        refine aw_iconst (v := 1) dX10_plays_129 (by decide) ?_
        refine aw_iadd dX10_plays_130 ?_
        refine aw_iload_n dX10_plays_131 rfl rfl ?_
        refine aw_icmp_ne (tgt := 151) dX10_plays_132 (by decide) (fun z => ?_) (fun z => ?_)
        · replace h := h.1 z
          refine aw_iload dX10_plays_151 rfl ?_
          refine aw_iconst (v := 1) dX10_plays_153 (by decide) ?_
          refine aw_iadd dX10_plays_154 ?_
          refine aw_istore (L2 := [lR 77, lI x1, lI x2, lI x3, lI (x4 + 1)]) dX10_plays_155 (by decide) rfl ?_
          refine aw_aload_n dX10_plays_157 rfl rfl ?_
          refine aw_getf dX10_plays_158 fl_X10_95 (by decide) ce_77 rfl (v := .ref 106) rfl ?_
          refine aw_iload dX10_plays_161 rfl ?_
          refine aw_bipush (v := (-2)) dX10_plays_163 (by decide) ?_
          obtain ⟨h9, h⟩ := h
          refine aw_iast dX10_plays_165 (by decide) ce_106 h9 ?_
          refine aw_aload_n dX10_plays_166 rfl rfl ?_
          refine aw_getf dX10_plays_167 fl_X10_98 (by decide) ce_77 rfl (v := .ref 107) rfl ?_
          refine aw_iload dX10_plays_170 rfl ?_
          refine aw_ldcw dX10_plays_172 kc_X10_273 ?_
          obtain ⟨h9, h⟩ := h
          refine aw_iast dX10_plays_175 (by decide) ce_107 h9 ?_
          refine aw_goto (tgt := 44) dX10_plays_176 (by decide) ?_
          exact h
        · replace h := h.2 z
          refine aw_aload_n dX10_plays_135 rfl rfl ?_
          refine aw_iload dX10_plays_136 rfl ?_
          refine aw_aload_n dX10_plays_138 rfl rfl ?_
          refine aw_iload_n dX10_plays_139 rfl rfl ?_
          refine aw_iload_n dX10_plays_140 rfl rfl ?_
          refine aw_iload_n dX10_plays_141 rfl rfl ?_
          refine aw_callV (mi := iX10_endsAs) (av := [.int x1, .int x2, .int x3]) (st := [.int x4, .ref 77]) dX10_plays_142 ml_X10_375 kX10_endsAs (by decide) ce_77 clX10 rfl rfl rfl (Nat.le_of_ble_eq_true rfl) (AM.mono h (fun r9 M2 h => ?_))
          obtain ⟨r2, rfl, h⟩ := h
          refine aw_callV (mi := iX10_tells) (av := [.int x4, .int r2]) (st := []) dX10_plays_145 ml_X10_369 kX10_tells (by decide) ce_77 clX10 rfl rfl rfl (Nat.le_of_ble_eq_true rfl) (AM.mono h (fun r9 M3 h => ?_))
          obtain ⟨rfl, h⟩ := h
          refine aw_goto (tgt := 44) dX10_plays_148 (by decide) ?_
          exact h
      · replace h := h.2 z
        refine aw_goto (tgt := 44) dX10_plays_124 (by decide) ?_
        exact h
    · replace h := h.2 z
      refine aw_iload dX10_plays_79 rfl ?_
      refine aw_iconst (v := 1) dX10_plays_81 (by decide) ?_
      refine aw_isub dX10_plays_82 ?_
      refine aw_istore (L2 := [lR 77, lI x1, lI x2, lI x3, lI (x4 - 1)]) dX10_plays_83 (by decide) rfl ?_
      refine aw_iload dX10_plays_85 rfl ?_
      refine aw_if_lt (tgt := 44) dX10_plays_87 (by decide) (fun z => ?_) (fun z => ?_)
      · replace h := h.1 z
        exact h
      · replace h := h.2 z
        refine aw_aload_n dX10_plays_90 rfl rfl ?_
        refine aw_iload dX10_plays_91 rfl ?_
        refine aw_aload_n dX10_plays_93 rfl rfl ?_
        refine aw_getf dX10_plays_94 fl_X10_98 (by decide) ce_77 rfl (v := .ref 107) rfl ?_
        refine aw_iload dX10_plays_97 rfl ?_
        refine aw_iconst (v := 1) dX10_plays_99 (by decide) ?_
        refine aw_iadd dX10_plays_100 ?_
        obtain ⟨h9, h⟩ := h
        refine aw_iald dX10_plays_101 (by decide) ce_107 h9 ?_
        refine aw_callV (mi := iX10_tells) (av := [.int (x4 - 1), .int (M 107 (ix ((x4 - 1) + 1)))]) (st := []) dX10_plays_102 ml_X10_369 kX10_tells (by decide) ce_77 clX10 rfl rfl rfl (Nat.le_of_ble_eq_true rfl) (AM.mono h (fun r9 M4 h => ?_))
        obtain ⟨rfl, h⟩ := h
        refine aw_goto (tgt := 44) dX10_plays_105 (by decide) ?_
        exact h
abbrev AX10_against (d : Nat) (Q : Option Int32 → Mem → Prop) (pc : Nat) (L : List (Option Value)) (st : List Value) (M : Mem) : Prop := AW none RX10 cX10_against 5 (some .int) d Q pc L st M
theorem eX10_against {d : Nat} {Q : Option Int32 → Mem → Prop} (M : Mem) (x1 x2 x3 x4 : Int32) (h : AX10_against d Q 0 [lR 77, lI x1, lI x2, lI x3, lI x4] [] M) : AM d iX10_against [.ref 77, .int x1, .int x2, .int x3, .int x4] M Q := AM.of2 (by decide) rfl rfl h
theorem bX10_against_0 {d : Nat} {Q : Option Int32 → Mem → Prop} (M : Mem) (x1 x2 x3 x4 : Int32) (h : ((isPV (M 77 34) x1) = 0 → Q (some (-1000)) M) ∧ (¬ (isPV (M 77 34) x1) = 0 → ((isPV (M 77 34) x2) = 0 → Q (some (-1000)) M) ∧ (¬ (isPV (M 77 34) x2) = 0 → (x1 = x2 → Q (some (-1000)) M) ∧ (¬ x1 = x2 → ((inV x3 1 4) = 0 → Q (some (-1000)) M) ∧ (¬ (inV x3 1 4) = 0 → (¬ (inV x4 0 1) = 0 → AMv d iX10_laysSteps [.ref 77, .int 0] M (fun M1 => AMv d iX10_plays [.ref 77, .int x1, .int x2, .int x3] M1 (fun M2 => (¬ x4 = 0 → (¬ (M2 77 49) = (-1) → Q (some (M2 77 49)) M2) ∧ ((M2 77 49) = (-1) → Q (some (-2)) M2)) ∧ (x4 = 0 → Q (some (M2 107 0)) M2)))) ∧ ((inV x4 0 1) = 0 → Q (some (-1000)) M)))))) : AX10_against (d + 1) Q 0 [lR 77, lI x1, lI x2, lI x3, lI x4] [] M := by
  refine aw_aload_n dX10_against_0 rfl rfl ?_
  refine aw_iload_n dX10_against_1 rfl rfl ?_
  refine aw_callV (mi := iX10_isOath) (av := [.int x1]) (st := []) dX10_against_2 ml_X10_292 kX10_isOath (by decide) ce_77 clX10 rfl rfl rfl (Nat.le_of_ble_eq_true rfl) (AM.mono (p_X10_isOath _) (fun r9 M9 e9 => ?_))
  obtain ⟨rfl, rfl⟩ := e9
  refine aw_if_eq (tgt := 40) dX10_against_5 (by decide) (fun z => ?_) (fun z => ?_)
  · replace h := h.1 z
    refine aw_sipush (v := (-1000)) dX10_against_40 (by decide) ?_
    exact aw_iret dX10_against_43 rfl rfl h
  · replace h := h.2 z
    refine aw_aload_n dX10_against_8 rfl rfl ?_
    refine aw_iload_n dX10_against_9 rfl rfl ?_
    refine aw_callV (mi := iX10_isOath) (av := [.int x2]) (st := []) dX10_against_10 ml_X10_292 kX10_isOath (by decide) ce_77 clX10 rfl rfl rfl (Nat.le_of_ble_eq_true rfl) (AM.mono (p_X10_isOath _) (fun r9 M9 e9 => ?_))
    obtain ⟨rfl, rfl⟩ := e9
    refine aw_if_eq (tgt := 40) dX10_against_13 (by decide) (fun z => ?_) (fun z => ?_)
    · replace h := h.1 z
      refine aw_sipush (v := (-1000)) dX10_against_40 (by decide) ?_
      exact aw_iret dX10_against_43 rfl rfl h
    · replace h := h.2 z
      refine aw_iload_n dX10_against_16 rfl rfl ?_
      refine aw_iload_n dX10_against_17 rfl rfl ?_
      refine aw_icmp_eq (tgt := 40) dX10_against_18 (by decide) (fun z => ?_) (fun z => ?_)
      · replace h := h.1 z
        refine aw_sipush (v := (-1000)) dX10_against_40 (by decide) ?_
        exact aw_iret dX10_against_43 rfl rfl h
      · replace h := h.2 z
        refine aw_iload_n dX10_against_21 rfl rfl ?_
        refine aw_iconst (v := 1) dX10_against_22 (by decide) ?_
        refine aw_iconst (v := 4) dX10_against_23 (by decide) ?_
        refine aw_callS (mi := iX10_in) (av := [.int x3, .int 1, .int 4]) (st := []) dX10_against_24 ml_X10_152 kX10_in rfl rfl (Nat.le_of_ble_eq_true rfl) (AM.mono (p_X10_in _ _ _) (fun r9 M9 e9 => ?_))
        obtain ⟨rfl, rfl⟩ := e9
        refine aw_if_eq (tgt := 40) dX10_against_27 (by decide) (fun z => ?_) (fun z => ?_)
        · replace h := h.1 z
          refine aw_sipush (v := (-1000)) dX10_against_40 (by decide) ?_
          exact aw_iret dX10_against_43 rfl rfl h
        · replace h := h.2 z
          refine aw_iload dX10_against_30 rfl ?_
          refine aw_iconst (v := 0) dX10_against_32 (by decide) ?_
          refine aw_iconst (v := 1) dX10_against_33 (by decide) ?_
          refine aw_callS (mi := iX10_in) (av := [.int x4, .int 0, .int 1]) (st := []) dX10_against_34 ml_X10_152 kX10_in rfl rfl (Nat.le_of_ble_eq_true rfl) (AM.mono (p_X10_in _ _ _) (fun r9 M9 e9 => ?_))
          obtain ⟨rfl, rfl⟩ := e9
          refine aw_if_ne (tgt := 44) dX10_against_37 (by decide) (fun z => ?_) (fun z => ?_)
          · replace h := h.1 z
            refine aw_aload_n dX10_against_44 rfl rfl ?_
            refine aw_iconst (v := 0) dX10_against_45 (by decide) ?_
            refine aw_callV (mi := iX10_laysSteps) (av := [.int 0]) (st := []) dX10_against_46 ml_X10_295 kX10_laysSteps (by decide) ce_77 clX10 rfl rfl rfl (Nat.le_of_ble_eq_true rfl) (AM.mono h (fun r9 M1 h => ?_))
            obtain ⟨rfl, h⟩ := h
            refine aw_aload_n dX10_against_49 rfl rfl ?_
            refine aw_iload_n dX10_against_50 rfl rfl ?_
            refine aw_iload_n dX10_against_51 rfl rfl ?_
            refine aw_iload_n dX10_against_52 rfl rfl ?_
            refine aw_callV (mi := iX10_plays) (av := [.int x1, .int x2, .int x3]) (st := []) dX10_against_53 ml_X10_378 kX10_plays (by decide) ce_77 clX10 rfl rfl rfl (Nat.le_of_ble_eq_true rfl) (AM.mono h (fun r9 M2 h => ?_))
            obtain ⟨rfl, h⟩ := h
            refine aw_iload dX10_against_56 rfl ?_
            refine aw_if_ne (tgt := 70) dX10_against_58 (by decide) (fun z => ?_) (fun z => ?_)
            · replace h := h.1 z
              refine aw_aload_n dX10_against_70 rfl rfl ?_
              refine aw_getf dX10_against_71 fl_X10_366 (by decide) ce_77 rfl (v := .int (M2 77 49)) rfl ?_
              refine aw_iconst (v := (-1)) dX10_against_74 (by decide) ?_
              refine aw_icmp_ne (tgt := 83) dX10_against_75 (by decide) (fun z => ?_) (fun z => ?_)
              · replace h := h.1 z
                refine aw_aload_n dX10_against_83 rfl rfl ?_
                refine aw_getf dX10_against_84 fl_X10_366 (by decide) ce_77 rfl (v := .int (M2 77 49)) rfl ?_
                exact aw_iret dX10_against_87 rfl rfl h
              · replace h := h.2 z
                refine aw_bipush (v := (-2)) dX10_against_78 (by decide) ?_
                refine aw_goto (tgt := 87) dX10_against_80 (by decide) ?_
                exact aw_iret dX10_against_87 rfl rfl h
            · replace h := h.2 z
              refine aw_aload_n dX10_against_61 rfl rfl ?_
              refine aw_getf dX10_against_62 fl_X10_98 (by decide) ce_77 rfl (v := .ref 107) rfl ?_
              refine aw_iconst (v := 0) dX10_against_65 (by decide) ?_
              refine aw_iald dX10_against_66 (by decide) ce_107 (by unfold vp_in; decide) ?_
              refine aw_goto (tgt := 87) dX10_against_67 (by decide) ?_
              exact aw_iret dX10_against_87 rfl rfl h
          · replace h := h.2 z
            refine aw_sipush (v := (-1000)) dX10_against_40 (by decide) ?_
            exact aw_iret dX10_against_43 rfl rfl h
abbrev AX10_joined (d : Nat) (Q : Option Int32 → Mem → Prop) (pc : Nat) (L : List (Option Value)) (st : List Value) (M : Mem) : Prop := AW none RX10 cX10_joined 6 (some .int) d Q pc L st M
theorem eX10_joined {d : Nat} {Q : Option Int32 → Mem → Prop} (M : Mem) (x1 x2 : Int32) (h : AX10_joined d Q 0 [lR 77, lI x1, lI x2, none, none, none] [] M) : AM d iX10_joined [.ref 77, .int x1, .int x2] M Q := AM.of2 (by decide) rfl rfl h
theorem bX10_joined_0 {d : Nat} {Q : Option Int32 → Mem → Prop} (M : Mem) (x1 x2 : Int32) (h : AX10_joined (d + 1) Q 5 [lR 77, none, lI x2, lI x1, lI 1, none] [] M) : AX10_joined (d + 1) Q 0 [lR 77, lI x1, lI x2, none, none, none] [] M := by
  refine aw_iload_n dX10_joined_0 rfl rfl ?_
  refine aw_istore_n (L2 := [lR 77, lI x1, lI x2, lI x1, none, none]) dX10_joined_1 rfl (by decide) rfl ?_
  refine aw_iconst (v := 1) dX10_joined_2 (by decide) ?_
  refine aw_istore (L2 := [lR 77, lI x1, lI x2, lI x1, lI 1, none]) dX10_joined_3 (by decide) rfl ?_
  exact aw_less (less_k (less_d (less_k (less_k (less_k (less_k less_nil)))))) h
theorem bX10_joined_5 {d : Nat} {Q : Option Int32 → Mem → Prop} (M : Mem) (x2 x3 x4 : Int32) (h : (x4 = 0 → Q (some x3) M) ∧ (¬ x4 = 0 → AX10_joined (d + 1) Q 16 [lR 77, none, lI x2, lI x3, lI 0, lI 0] [] M)) : AX10_joined (d + 1) Q 5 [lR 77, none, lI x2, lI x3, lI x4, none] [] M := by
  refine aw_iload dX10_joined_5 rfl ?_
  refine aw_if_eq (tgt := 78) dX10_joined_7 (by decide) (fun z => ?_) (fun z => ?_)
  · replace h := h.1 z
    refine aw_iload_n dX10_joined_78 rfl rfl ?_
    exact aw_iret dX10_joined_79 rfl rfl h
  · replace h := h.2 z
    refine aw_iconst (v := 0) dX10_joined_10 (by decide) ?_
    refine aw_istore (L2 := [lR 77, none, lI x2, lI x3, lI 0, none]) dX10_joined_11 (by decide) rfl ?_
    refine aw_iconst (v := 0) dX10_joined_13 (by decide) ?_
    refine aw_istore (L2 := [lR 77, none, lI x2, lI x3, lI 0, lI 0]) dX10_joined_14 (by decide) rfl ?_
    exact h
theorem bX10_joined_16 {d : Nat} {Q : Option Int32 → Mem → Prop} (M : Mem) (x2 x3 x4 x5 : Int32) (h : ((M 77 0) ≤ x5 → AX10_joined (d + 1) Q 5 [lR 77, none, lI x2, lI x3, lI x4, none] [] M) ∧ (¬ (M 77 0) ≤ x5 → ((hasV x2 x5) = 0 → AX10_joined (d + 1) Q 16 [lR 77, none, lI x2, lI x3, lI x4, lI (x5 + 1)] [] M) ∧ (¬ (hasV x2 x5) = 0 → (¬ (hasV x3 x5) = 0 → AX10_joined (d + 1) Q 16 [lR 77, none, lI x2, lI x3, lI x4, lI (x5 + 1)] [] M) ∧ ((hasV x3 x5) = 0 → AMi d iX10_leastBy [.ref 77, .int x3, .int x5] M (fun r1 M1 => (¬ r1 = 1000000000 → AX10_joined (d + 1) Q 16 [lR 77, none, lI x2, lI (x3 ||| ((1 : Int32) <<< (x5 &&& 31))), lI 1, lI (x5 + 1)] [] M1) ∧ (r1 = 1000000000 → AX10_joined (d + 1) Q 16 [lR 77, none, lI x2, lI x3, lI x4, lI (x5 + 1)] [] M1)))))) : AX10_joined (d + 1) Q 16 [lR 77, none, lI x2, lI x3, lI x4, lI x5] [] M := by
  refine aw_iload dX10_joined_16 rfl ?_
  refine aw_aload_n dX10_joined_18 rfl rfl ?_
  refine aw_getf dX10_joined_19 fl_X10_138 (by decide) ce_77 rfl (v := .int (M 77 0)) rfl ?_
  refine aw_icmp_ge (tgt := 75) dX10_joined_22 (by decide) (fun z => ?_) (fun z => ?_)
  · replace h := h.1 z
    refine aw_goto (tgt := 5) dX10_joined_75 (by decide) ?_
    exact aw_less (less_k (less_k (less_k (less_k (less_k (less_d less_nil)))))) h
  · replace h := h.2 z
    refine aw_iload_n dX10_joined_25 rfl rfl ?_
    refine aw_iload dX10_joined_26 rfl ?_
    refine aw_callS (mi := iX10_has) (av := [.int x2, .int x5]) (st := []) dX10_joined_28 ml_X10_148 kX10_has rfl rfl (Nat.le_of_ble_eq_true rfl) (AM.mono (p_X10_has _ _) (fun r9 M9 e9 => ?_))
    obtain ⟨rfl, rfl⟩ := e9
    refine aw_if_eq (tgt := 69) dX10_joined_31 (by decide) (fun z => ?_) (fun z => ?_)
    · replace h := h.1 z
      refine aw_iinc (y := 1) (L2 := [lR 77, none, lI x2, lI x3, lI x4, lI (x5 + 1)]) dX10_joined_69 rfl (by decide) (by decide) rfl ?_
      refine aw_goto (tgt := 16) dX10_joined_72 (by decide) ?_
      exact h
    · replace h := h.2 z
      refine aw_iload_n dX10_joined_34 rfl rfl ?_
      refine aw_iload dX10_joined_35 rfl ?_
      refine aw_callS (mi := iX10_has) (av := [.int x3, .int x5]) (st := []) dX10_joined_37 ml_X10_148 kX10_has rfl rfl (Nat.le_of_ble_eq_true rfl) (AM.mono (p_X10_has _ _) (fun r9 M9 e9 => ?_))
      obtain ⟨rfl, rfl⟩ := e9
      refine aw_if_ne (tgt := 69) dX10_joined_40 (by decide) (fun z => ?_) (fun z => ?_)
      · replace h := h.1 z
        refine aw_iinc (y := 1) (L2 := [lR 77, none, lI x2, lI x3, lI x4, lI (x5 + 1)]) dX10_joined_69 rfl (by decide) (by decide) rfl ?_
        refine aw_goto (tgt := 16) dX10_joined_72 (by decide) ?_
        exact h
      · replace h := h.2 z
        refine aw_aload_n dX10_joined_43 rfl rfl ?_
        refine aw_iload_n dX10_joined_44 rfl rfl ?_
        refine aw_iload dX10_joined_45 rfl ?_
        refine aw_callV (mi := iX10_leastBy) (av := [.int x3, .int x5]) (st := []) dX10_joined_47 ml_X10_298 kX10_leastBy (by decide) ce_77 clX10 rfl rfl rfl (Nat.le_of_ble_eq_true rfl) (AM.mono h (fun r9 M1 h => ?_))
        obtain ⟨r1, rfl, h⟩ := h
        refine aw_ldcw dX10_joined_50 kc_X10_273 ?_
        refine aw_icmp_ne (tgt := 59) dX10_joined_53 (by decide) (fun z => ?_) (fun z => ?_)
        · replace h := h.1 z
          refine aw_iload_n dX10_joined_59 rfl rfl ?_
          refine aw_iconst (v := 1) dX10_joined_60 (by decide) ?_
          refine aw_iload dX10_joined_61 rfl ?_
          refine aw_ishl dX10_joined_63 ?_
          refine aw_ior dX10_joined_64 ?_
          refine aw_istore_n (L2 := [lR 77, none, lI x2, lI (x3 ||| ((1 : Int32) <<< (x5 &&& 31))), lI x4, lI x5]) dX10_joined_65 rfl (by decide) rfl ?_
          refine aw_iconst (v := 1) dX10_joined_66 (by decide) ?_
          refine aw_istore (L2 := [lR 77, none, lI x2, lI (x3 ||| ((1 : Int32) <<< (x5 &&& 31))), lI 1, lI x5]) dX10_joined_67 (by decide) rfl ?_
          refine aw_iinc (y := 1) (L2 := [lR 77, none, lI x2, lI (x3 ||| ((1 : Int32) <<< (x5 &&& 31))), lI 1, lI (x5 + 1)]) dX10_joined_69 rfl (by decide) (by decide) rfl ?_
          refine aw_goto (tgt := 16) dX10_joined_72 (by decide) ?_
          exact h
        · replace h := h.2 z
          refine aw_goto (tgt := 69) dX10_joined_56 (by decide) ?_
          refine aw_iinc (y := 1) (L2 := [lR 77, none, lI x2, lI x3, lI x4, lI (x5 + 1)]) dX10_joined_69 rfl (by decide) (by decide) rfl ?_
          refine aw_goto (tgt := 16) dX10_joined_72 (by decide) ?_
          exact h
abbrev AX10_heldBy (d : Nat) (Q : Option Int32 → Mem → Prop) (pc : Nat) (L : List (Option Value)) (st : List Value) (M : Mem) : Prop := AW none RX10 cX10_heldBy 4 (some .int) d Q pc L st M
theorem eX10_heldBy {d : Nat} {Q : Option Int32 → Mem → Prop} (M : Mem) (x1 : Int32) (h : AX10_heldBy d Q 0 [lR 77, lI x1, none, none] [] M) : AM d iX10_heldBy [.ref 77, .int x1] M Q := AM.of2 (by decide) rfl rfl h
theorem bX10_heldBy_0 {d : Nat} {Q : Option Int32 → Mem → Prop} (M : Mem) (x1 : Int32) (h : AX10_heldBy (d + 1) Q 4 [lR 77, lI x1, lI 0, lI 0] [] M) : AX10_heldBy (d + 1) Q 0 [lR 77, lI x1, none, none] [] M := by
  refine aw_iconst (v := 0) dX10_heldBy_0 (by decide) ?_
  refine aw_istore_n (L2 := [lR 77, lI x1, lI 0, none]) dX10_heldBy_1 rfl (by decide) rfl ?_
  refine aw_iconst (v := 0) dX10_heldBy_2 (by decide) ?_
  refine aw_istore_n (L2 := [lR 77, lI x1, lI 0, lI 0]) dX10_heldBy_3 rfl (by decide) rfl ?_
  exact h
theorem bX10_heldBy_4 {d : Nat} {Q : Option Int32 → Mem → Prop} (M : Mem) (x1 x2 x3 : Int32) (h : ((M 77 34) ≤ x3 → Q (some x2) M) ∧ (¬ (M 77 34) ≤ x3 → (vp_in x3 12) ∧ ((vp_in x3 12) ∧ (AMi d iX10_joined [.ref 77, .int (M 101 (ix x3)), .int x1] M (fun r1 M1 => AMi d iX10_holdsBy [.ref 77, .int (M 99 (ix x3)), .int r1] M1 (fun r2 M2 => (r2 = 0 → AX10_heldBy (d + 1) Q 4 [lR 77, lI x1, lI (x2 + 0), lI (x3 + 1)] [] M2) ∧ (¬ r2 = 0 → AX10_heldBy (d + 1) Q 4 [lR 77, lI x1, lI (x2 + 1), lI (x3 + 1)] [] M2))))))) : AX10_heldBy (d + 1) Q 4 [lR 77, lI x1, lI x2, lI x3] [] M := by
  refine aw_iload_n dX10_heldBy_4 rfl rfl ?_
  refine aw_aload_n dX10_heldBy_5 rfl rfl ?_
  refine aw_getf dX10_heldBy_6 fl_X10_286 (by decide) ce_77 rfl (v := .int (M 77 34)) rfl ?_
  refine aw_icmp_ge (tgt := 50) dX10_heldBy_9 (by decide) (fun z => ?_) (fun z => ?_)
  · replace h := h.1 z
    refine aw_iload_n dX10_heldBy_50 rfl rfl ?_
    exact aw_iret dX10_heldBy_51 rfl rfl h
  · replace h := h.2 z
    refine aw_iload_n dX10_heldBy_12 rfl rfl ?_
    refine aw_aload_n dX10_heldBy_13 rfl rfl ?_
    refine aw_aload_n dX10_heldBy_14 rfl rfl ?_
    refine aw_getf dX10_heldBy_15 fl_X10_74 (by decide) ce_77 rfl (v := .ref 99) rfl ?_
    refine aw_iload_n dX10_heldBy_18 rfl rfl ?_
    obtain ⟨h9, h⟩ := h
    refine aw_iald dX10_heldBy_19 (by decide) ce_99 h9 ?_
    refine aw_aload_n dX10_heldBy_20 rfl rfl ?_
    refine aw_aload_n dX10_heldBy_21 rfl rfl ?_
    refine aw_getf dX10_heldBy_22 fl_X10_80 (by decide) ce_77 rfl (v := .ref 101) rfl ?_
    refine aw_iload_n dX10_heldBy_25 rfl rfl ?_
    obtain ⟨h9, h⟩ := h
    refine aw_iald dX10_heldBy_26 (by decide) ce_101 h9 ?_
    refine aw_iload_n dX10_heldBy_27 rfl rfl ?_
    refine aw_callV (mi := iX10_joined) (av := [.int (M 101 (ix x3)), .int x1]) (st := [.int (M 99 (ix x3)), .ref 77, .int x2]) dX10_heldBy_28 ml_X10_382 kX10_joined (by decide) ce_77 clX10 rfl rfl rfl (Nat.le_of_ble_eq_true rfl) (AM.mono h (fun r9 M1 h => ?_))
    obtain ⟨r1, rfl, h⟩ := h
    refine aw_callV (mi := iX10_holdsBy) (av := [.int (M 99 (ix x3)), .int r1]) (st := [.int x2]) dX10_heldBy_31 ml_X10_307 kX10_holdsBy (by decide) ce_77 clX10 rfl rfl rfl (Nat.le_of_ble_eq_true rfl) (AM.mono h (fun r9 M2 h => ?_))
    obtain ⟨r2, rfl, h⟩ := h
    refine aw_if_eq (tgt := 41) dX10_heldBy_34 (by decide) (fun z => ?_) (fun z => ?_)
    · replace h := h.1 z
      refine aw_iconst (v := 0) dX10_heldBy_41 (by decide) ?_
      refine aw_iadd dX10_heldBy_42 ?_
      refine aw_istore_n (L2 := [lR 77, lI x1, lI (x2 + 0), lI x3]) dX10_heldBy_43 rfl (by decide) rfl ?_
      refine aw_iinc (y := 1) (L2 := [lR 77, lI x1, lI (x2 + 0), lI (x3 + 1)]) dX10_heldBy_44 rfl (by decide) (by decide) rfl ?_
      refine aw_goto (tgt := 4) dX10_heldBy_47 (by decide) ?_
      exact h
    · replace h := h.2 z
      refine aw_iconst (v := 1) dX10_heldBy_37 (by decide) ?_
      refine aw_goto (tgt := 42) dX10_heldBy_38 (by decide) ?_
      refine aw_iadd dX10_heldBy_42 ?_
      refine aw_istore_n (L2 := [lR 77, lI x1, lI (x2 + 1), lI x3]) dX10_heldBy_43 rfl (by decide) rfl ?_
      refine aw_iinc (y := 1) (L2 := [lR 77, lI x1, lI (x2 + 1), lI (x3 + 1)]) dX10_heldBy_44 rfl (by decide) (by decide) rfl ?_
      refine aw_goto (tgt := 4) dX10_heldBy_47 (by decide) ?_
      exact h
abbrev AX10_whom (d : Nat) (Q : Option Int32 → Mem → Prop) (pc : Nat) (L : List (Option Value)) (st : List Value) (M : Mem) : Prop := AW none RX10 cX10_whom 8 (some .int) d Q pc L st M
theorem eX10_whom {d : Nat} {Q : Option Int32 → Mem → Prop} (M : Mem) (x1 x2 x3 : Int32) (h : AX10_whom d Q 0 [lR 77, lI x1, lI x2, lI x3, none, none, none, none] [] M) : AM d iX10_whom [.ref 77, .int x1, .int x2, .int x3] M Q := AM.of2 (by decide) rfl rfl h
theorem bX10_whom_0 {d : Nat} {Q : Option Int32 → Mem → Prop} (M : Mem) (x1 x2 x3 : Int32) (h : (x1 < 1 → Q (some (-1)) M) ∧ (¬ x1 < 1 → (¬ (x1 &&& ((M 77 1) ^^^ (-1))) = 0 → Q (some (-1)) M) ∧ ((x1 &&& ((M 77 1) ^^^ (-1))) = 0 → (8 < (bitsV x1) → Q (some (-1)) M) ∧ (¬ 8 < (bitsV x1) → ((inV x2 1 4) = 0 → Q (some (-1)) M) ∧ (¬ (inV x2 1 4) = 0 → ((bitsV x1) < x2 → Q (some (-1)) M) ∧ (¬ (bitsV x1) < x2 → (¬ (inV x3 0 1) = 0 → AMv d iX10_laysSteps [.ref 77, .int 0] M (fun M1 => AX10_whom (d + 1) Q 67 [lR 77, lI x1, lI x2, lI x3, lI 0, lI (-1), lI 1, none] [] M1)) ∧ ((inV x3 0 1) = 0 → Q (some (-1)) M))))))) : AX10_whom (d + 1) Q 0 [lR 77, lI x1, lI x2, lI x3, none, none, none, none] [] M := by
  refine aw_iload_n dX10_whom_0 rfl rfl ?_
  refine aw_iconst (v := 1) dX10_whom_1 (by decide) ?_
  refine aw_icmp_lt (tgt := 51) dX10_whom_2 (by decide) (fun z => ?_) (fun z => ?_)
  · replace h := h.1 z
    refine aw_iconst (v := (-1)) dX10_whom_51 (by decide) ?_
    exact aw_iret dX10_whom_52 rfl rfl h
  · replace h := h.2 z
    refine aw_iload_n dX10_whom_5 rfl rfl ?_
    refine aw_aload_n dX10_whom_6 rfl rfl ?_
    refine aw_getf dX10_whom_7 fl_X10_145 (by decide) ce_77 rfl (v := .int (M 77 1)) rfl ?_
    refine aw_iconst (v := (-1)) dX10_whom_10 (by decide) ?_
    refine aw_ixor dX10_whom_11 ?_
    refine aw_iand dX10_whom_12 ?_
    refine aw_if_ne (tgt := 51) dX10_whom_13 (by decide) (fun z => ?_) (fun z => ?_)
    · replace h := h.1 z
      refine aw_iconst (v := (-1)) dX10_whom_51 (by decide) ?_
      exact aw_iret dX10_whom_52 rfl rfl h
    · replace h := h.2 z
      refine aw_iload_n dX10_whom_16 rfl rfl ?_
      refine aw_callS (mi := iX10_bits) (av := [.int x1]) (st := []) dX10_whom_17 ml_X10_313 kX10_bits rfl rfl (Nat.le_of_ble_eq_true rfl) (AM.mono (p_X10_bits _) (fun r9 M9 e9 => ?_))
      obtain ⟨rfl, rfl⟩ := e9
      refine aw_bipush (v := 8) dX10_whom_20 (by decide) ?_
      refine aw_icmp_gt (tgt := 51) dX10_whom_22 (by decide) (fun z => ?_) (fun z => ?_)
      · replace h := h.1 z
        refine aw_iconst (v := (-1)) dX10_whom_51 (by decide) ?_
        exact aw_iret dX10_whom_52 rfl rfl h
      · replace h := h.2 z
        refine aw_iload_n dX10_whom_25 rfl rfl ?_
        refine aw_iconst (v := 1) dX10_whom_26 (by decide) ?_
        refine aw_iconst (v := 4) dX10_whom_27 (by decide) ?_
        refine aw_callS (mi := iX10_in) (av := [.int x2, .int 1, .int 4]) (st := []) dX10_whom_28 ml_X10_152 kX10_in rfl rfl (Nat.le_of_ble_eq_true rfl) (AM.mono (p_X10_in _ _ _) (fun r9 M9 e9 => ?_))
        obtain ⟨rfl, rfl⟩ := e9
        refine aw_if_eq (tgt := 51) dX10_whom_31 (by decide) (fun z => ?_) (fun z => ?_)
        · replace h := h.1 z
          refine aw_iconst (v := (-1)) dX10_whom_51 (by decide) ?_
          exact aw_iret dX10_whom_52 rfl rfl h
        · replace h := h.2 z
          refine aw_iload_n dX10_whom_34 rfl rfl ?_
          refine aw_callS (mi := iX10_bits) (av := [.int x1]) (st := []) dX10_whom_35 ml_X10_313 kX10_bits rfl rfl (Nat.le_of_ble_eq_true rfl) (AM.mono (p_X10_bits _) (fun r9 M9 e9 => ?_))
          obtain ⟨rfl, rfl⟩ := e9
          refine aw_iload_n dX10_whom_38 rfl rfl ?_
          refine aw_icmp_lt (tgt := 51) dX10_whom_39 (by decide) (fun z => ?_) (fun z => ?_)
          · replace h := h.1 z
            refine aw_iconst (v := (-1)) dX10_whom_51 (by decide) ?_
            exact aw_iret dX10_whom_52 rfl rfl h
          · replace h := h.2 z
            refine aw_iload_n dX10_whom_42 rfl rfl ?_
            refine aw_iconst (v := 0) dX10_whom_43 (by decide) ?_
            refine aw_iconst (v := 1) dX10_whom_44 (by decide) ?_
            refine aw_callS (mi := iX10_in) (av := [.int x3, .int 0, .int 1]) (st := []) dX10_whom_45 ml_X10_152 kX10_in rfl rfl (Nat.le_of_ble_eq_true rfl) (AM.mono (p_X10_in _ _ _) (fun r9 M9 e9 => ?_))
            obtain ⟨rfl, rfl⟩ := e9
            refine aw_if_ne (tgt := 53) dX10_whom_48 (by decide) (fun z => ?_) (fun z => ?_)
            · replace h := h.1 z
              refine aw_aload_n dX10_whom_53 rfl rfl ?_
              refine aw_iconst (v := 0) dX10_whom_54 (by decide) ?_
              refine aw_callV (mi := iX10_laysSteps) (av := [.int 0]) (st := []) dX10_whom_55 ml_X10_295 kX10_laysSteps (by decide) ce_77 clX10 rfl rfl rfl (Nat.le_of_ble_eq_true rfl) (AM.mono h (fun r9 M1 h => ?_))
              obtain ⟨rfl, h⟩ := h
              refine aw_iconst (v := 0) dX10_whom_58 (by decide) ?_
              refine aw_istore (L2 := [lR 77, lI x1, lI x2, lI x3, lI 0, none, none, none]) dX10_whom_59 (by decide) rfl ?_
              refine aw_iconst (v := (-1)) dX10_whom_61 (by decide) ?_
              refine aw_istore (L2 := [lR 77, lI x1, lI x2, lI x3, lI 0, lI (-1), none, none]) dX10_whom_62 (by decide) rfl ?_
              refine aw_iconst (v := 1) dX10_whom_64 (by decide) ?_
              refine aw_istore (L2 := [lR 77, lI x1, lI x2, lI x3, lI 0, lI (-1), lI 1, none]) dX10_whom_65 (by decide) rfl ?_
              exact h
            · replace h := h.2 z
              refine aw_iconst (v := (-1)) dX10_whom_51 (by decide) ?_
              exact aw_iret dX10_whom_52 rfl rfl h
theorem bX10_whom_67 {d : Nat} {Q : Option Int32 → Mem → Prop} (M : Mem) (x1 x2 x3 x4 x5 x6 : Int32) (h : (x1 < x6 → (¬ x3 = 0 → Q (some x4) M) ∧ (x3 = 0 → Q (some x5) M)) ∧ (¬ x1 < x6 → (¬ (x6 &&& (x1 ^^^ (-1))) = 0 → AX10_whom (d + 1) Q 67 [lR 77, lI x1, lI x2, lI x3, lI x4, lI x5, lI (x6 + 1), none] [] M) ∧ ((x6 &&& (x1 ^^^ (-1))) = 0 → ((bitsV x6) = x2 → AMi d iX10_heldBy [.ref 77, .int x6] M (fun r1 M1 => (x5 < r1 → AX10_whom (d + 1) Q 67 [lR 77, lI x1, lI x2, lI x3, lI x6, lI r1, lI (x6 + 1), none] [] M1) ∧ (¬ x5 < r1 → AX10_whom (d + 1) Q 67 [lR 77, lI x1, lI x2, lI x3, lI x4, lI x5, lI (x6 + 1), none] [] M1))) ∧ (¬ (bitsV x6) = x2 → AX10_whom (d + 1) Q 67 [lR 77, lI x1, lI x2, lI x3, lI x4, lI x5, lI (x6 + 1), none] [] M)))) : AX10_whom (d + 1) Q 67 [lR 77, lI x1, lI x2, lI x3, lI x4, lI x5, lI x6, none] [] M := by
  refine aw_iload dX10_whom_67 rfl ?_
  refine aw_iload_n dX10_whom_69 rfl rfl ?_
  refine aw_icmp_gt (tgt := 126) dX10_whom_70 (by decide) (fun z => ?_) (fun z => ?_)
  · replace h := h.1 z
    refine aw_iload_n dX10_whom_126 rfl rfl ?_
    refine aw_if_ne (tgt := 135) dX10_whom_127 (by decide) (fun z => ?_) (fun z => ?_)
    · replace h := h.1 z
      refine aw_iload dX10_whom_135 rfl ?_
      exact aw_iret dX10_whom_137 rfl rfl h
    · replace h := h.2 z
      refine aw_iload dX10_whom_130 rfl ?_
      refine aw_goto (tgt := 137) dX10_whom_132 (by decide) ?_
      exact aw_iret dX10_whom_137 rfl rfl h
  · replace h := h.2 z
    refine aw_iload dX10_whom_73 rfl ?_
    refine aw_iload_n dX10_whom_75 rfl rfl ?_
    refine aw_iconst (v := (-1)) dX10_whom_76 (by decide) ?_
    refine aw_ixor dX10_whom_77 ?_
    refine aw_iand dX10_whom_78 ?_
    refine aw_if_ne (tgt := 120) dX10_whom_79 (by decide) (fun z => ?_) (fun z => ?_)
    · replace h := h.1 z
      refine aw_iinc (y := 1) (L2 := [lR 77, lI x1, lI x2, lI x3, lI x4, lI x5, lI (x6 + 1), none]) dX10_whom_120 rfl (by decide) (by decide) rfl ?_
      refine aw_goto (tgt := 67) dX10_whom_123 (by decide) ?_
      exact h
    · replace h := h.2 z
      refine aw_iload dX10_whom_82 rfl ?_
      refine aw_callS (mi := iX10_bits) (av := [.int x6]) (st := []) dX10_whom_84 ml_X10_313 kX10_bits rfl rfl (Nat.le_of_ble_eq_true rfl) (AM.mono (p_X10_bits _) (fun r9 M9 e9 => ?_))
      obtain ⟨rfl, rfl⟩ := e9
      refine aw_iload_n dX10_whom_87 rfl rfl ?_
      refine aw_icmp_eq (tgt := 94) dX10_whom_88 (by decide) (fun z => ?_) (fun z => ?_)
      · replace h := h.1 z
        refine aw_aload_n dX10_whom_94 rfl rfl ?_
        refine aw_iload dX10_whom_95 rfl ?_
        refine aw_callV (mi := iX10_heldBy) (av := [.int x6]) (st := []) dX10_whom_97 ml_X10_385 kX10_heldBy (by decide) ce_77 clX10 rfl rfl rfl (Nat.le_of_ble_eq_true rfl) (AM.mono h (fun r9 M1 h => ?_))
        obtain ⟨r1, rfl, h⟩ := h
        refine aw_istore (L2 := [lR 77, lI x1, lI x2, lI x3, lI x4, lI x5, lI x6, lI r1]) dX10_whom_100 (by decide) rfl ?_
        refine aw_iload dX10_whom_102 rfl ?_
        refine aw_iload dX10_whom_104 rfl ?_
        refine aw_icmp_gt (tgt := 112) dX10_whom_106 (by decide) (fun z => ?_) (fun z => ?_)
        · replace h := h.1 z
          refine aw_iload dX10_whom_112 rfl ?_
          refine aw_istore (L2 := [lR 77, lI x1, lI x2, lI x3, lI x4, lI r1, lI x6, lI r1]) dX10_whom_114 (by decide) rfl ?_
          refine aw_iload dX10_whom_116 rfl ?_
          refine aw_istore (L2 := [lR 77, lI x1, lI x2, lI x3, lI x6, lI r1, lI x6, lI r1]) dX10_whom_118 (by decide) rfl ?_
          refine aw_iinc (y := 1) (L2 := [lR 77, lI x1, lI x2, lI x3, lI x6, lI r1, lI (x6 + 1), lI r1]) dX10_whom_120 rfl (by decide) (by decide) rfl ?_
          refine aw_goto (tgt := 67) dX10_whom_123 (by decide) ?_
          exact aw_less (less_k (less_k (less_k (less_k (less_k (less_k (less_k (less_d less_nil)))))))) h
        · replace h := h.2 z
          refine aw_goto (tgt := 120) dX10_whom_109 (by decide) ?_
          refine aw_iinc (y := 1) (L2 := [lR 77, lI x1, lI x2, lI x3, lI x4, lI x5, lI (x6 + 1), lI r1]) dX10_whom_120 rfl (by decide) (by decide) rfl ?_
          refine aw_goto (tgt := 67) dX10_whom_123 (by decide) ?_
          exact aw_less (less_k (less_k (less_k (less_k (less_k (less_k (less_k (less_d less_nil)))))))) h
      · replace h := h.2 z
        refine aw_goto (tgt := 120) dX10_whom_91 (by decide) ?_
        refine aw_iinc (y := 1) (L2 := [lR 77, lI x1, lI x2, lI x3, lI x4, lI x5, lI (x6 + 1), none]) dX10_whom_120 rfl (by decide) (by decide) rfl ?_
        refine aw_goto (tgt := 67) dX10_whom_123 (by decide) ?_
        exact h
abbrev AX10_sure (d : Nat) (Q : Option Int32 → Mem → Prop) (pc : Nat) (L : List (Option Value)) (st : List Value) (M : Mem) : Prop := AW none RX10 cX10_sure 2 (some .int) d Q pc L st M
theorem eX10_sure {d : Nat} {Q : Option Int32 → Mem → Prop} (M : Mem) (x1 : Int32) (h : AX10_sure d Q 0 [lR 77, lI x1] [] M) : AM d iX10_sure [.ref 77, .int x1] M Q := AM.of2 (by decide) rfl rfl h
theorem bX10_sure_0 {d : Nat} {Q : Option Int32 → Mem → Prop} (M : Mem) (x1 : Int32) (h : (¬ (isPV (M 77 34) x1) = 0 → AMv d iX10_laysSteps [.ref 77, .int 0] M (fun M1 => AMi d iX10_holdsNow [.ref 77, .int x1] M1 (fun r2 M2 => (r2 = 0 → Q (some 0) M2) ∧ (¬ r2 = 0 → (vp_in x1 12) ∧ ((vp_in x1 12) ∧ (AMi d iX10_isSafe [.ref 77, .int (M2 99 (ix x1)), .int (M2 101 (ix x1)), .int 1] M2 (fun r3 M3 => (r3 = 0 → Q (some 0) M3) ∧ (¬ r3 = 0 → Q (some 1) M3)))))))) ∧ ((isPV (M 77 34) x1) = 0 → Q (some (-1)) M)) : AX10_sure (d + 1) Q 0 [lR 77, lI x1] [] M := by
  refine aw_aload_n dX10_sure_0 rfl rfl ?_
  refine aw_iload_n dX10_sure_1 rfl rfl ?_
  refine aw_callV (mi := iX10_isOath) (av := [.int x1]) (st := []) dX10_sure_2 ml_X10_292 kX10_isOath (by decide) ce_77 clX10 rfl rfl rfl (Nat.le_of_ble_eq_true rfl) (AM.mono (p_X10_isOath _) (fun r9 M9 e9 => ?_))
  obtain ⟨rfl, rfl⟩ := e9
  refine aw_if_ne (tgt := 10) dX10_sure_5 (by decide) (fun z => ?_) (fun z => ?_)
  · replace h := h.1 z
    refine aw_aload_n dX10_sure_10 rfl rfl ?_
    refine aw_iconst (v := 0) dX10_sure_11 (by decide) ?_
    refine aw_callV (mi := iX10_laysSteps) (av := [.int 0]) (st := []) dX10_sure_12 ml_X10_295 kX10_laysSteps (by decide) ce_77 clX10 rfl rfl rfl (Nat.le_of_ble_eq_true rfl) (AM.mono h (fun r9 M1 h => ?_))
    obtain ⟨rfl, h⟩ := h
    refine aw_aload_n dX10_sure_15 rfl rfl ?_
    refine aw_iload_n dX10_sure_16 rfl rfl ?_
    refine aw_callV (mi := iX10_holdsNow) (av := [.int x1]) (st := []) dX10_sure_17 ml_X10_310 kX10_holdsNow (by decide) ce_77 clX10 rfl rfl rfl (Nat.le_of_ble_eq_true rfl) (AM.mono h (fun r9 M2 h => ?_))
    obtain ⟨r2, rfl, h⟩ := h
    refine aw_if_eq (tgt := 47) dX10_sure_20 (by decide) (fun z => ?_) (fun z => ?_)
    · replace h := h.1 z
      refine aw_iconst (v := 0) dX10_sure_47 (by decide) ?_
      exact aw_iret dX10_sure_48 rfl rfl h
    · replace h := h.2 z
      refine aw_aload_n dX10_sure_23 rfl rfl ?_
      refine aw_aload_n dX10_sure_24 rfl rfl ?_
      refine aw_getf dX10_sure_25 fl_X10_74 (by decide) ce_77 rfl (v := .ref 99) rfl ?_
      refine aw_iload_n dX10_sure_28 rfl rfl ?_
      obtain ⟨h9, h⟩ := h
      refine aw_iald dX10_sure_29 (by decide) ce_99 h9 ?_
      refine aw_aload_n dX10_sure_30 rfl rfl ?_
      refine aw_getf dX10_sure_31 fl_X10_80 (by decide) ce_77 rfl (v := .ref 101) rfl ?_
      refine aw_iload_n dX10_sure_34 rfl rfl ?_
      obtain ⟨h9, h⟩ := h
      refine aw_iald dX10_sure_35 (by decide) ce_101 h9 ?_
      refine aw_iconst (v := 1) dX10_sure_36 (by decide) ?_
      refine aw_callV (mi := iX10_isSafe) (av := [.int (M2 99 (ix x1)), .int (M2 101 (ix x1)), .int 1]) (st := []) dX10_sure_37 ml_X10_363 kX10_isSafe (by decide) ce_77 clX10 rfl rfl rfl (Nat.le_of_ble_eq_true rfl) (AM.mono h (fun r9 M3 h => ?_))
      obtain ⟨r3, rfl, h⟩ := h
      refine aw_if_eq (tgt := 47) dX10_sure_40 (by decide) (fun z => ?_) (fun z => ?_)
      · replace h := h.1 z
        refine aw_iconst (v := 0) dX10_sure_47 (by decide) ?_
        exact aw_iret dX10_sure_48 rfl rfl h
      · replace h := h.2 z
        refine aw_iconst (v := 1) dX10_sure_43 (by decide) ?_
        refine aw_goto (tgt := 48) dX10_sure_44 (by decide) ?_
        exact aw_iret dX10_sure_48 rfl rfl h
  · replace h := h.2 z
    refine aw_iconst (v := (-1)) dX10_sure_8 (by decide) ?_
    exact aw_iret dX10_sure_9 rfl rfl h
abbrev AX10_found (d : Nat) (Q : Option Int32 → Mem → Prop) (pc : Nat) (L : List (Option Value)) (st : List Value) (M : Mem) : Prop := AW none RX10 cX10_found 2 (some .int) d Q pc L st M
theorem eX10_found {d : Nat} {Q : Option Int32 → Mem → Prop} (M : Mem) (x1 : Int32) (h : AX10_found d Q 0 [lR 77, lI x1] [] M) : AM d iX10_found [.ref 77, .int x1] M Q := AM.of2 (by decide) rfl rfl h
theorem bX10_found_0 {d : Nat} {Q : Option Int32 → Mem → Prop} (M : Mem) (x1 : Int32) (h : (x1 < 1 → Q (some (-1)) M) ∧ (¬ x1 < 1 → (((1 : Int32) <<< ((M 77 34) &&& 31)) ≤ x1 → Q (some (-1)) M) ∧ (¬ ((1 : Int32) <<< ((M 77 34) &&& 31)) ≤ x1 → (¬ (M 77 50) = 12 → (vp_in (M 77 50) 12) ∧ (Q (some (((M 77 50) + 1))) (wr (wr M 110 (ix (M 77 50)) x1) 77 50 ((M 77 50) + 1)))) ∧ ((M 77 50) = 12 → Q (some (-1)) M)))) : AX10_found d Q 0 [lR 77, lI x1] [] M := by
  refine aw_iload_n dX10_found_0 rfl rfl ?_
  refine aw_iconst (v := 1) dX10_found_1 (by decide) ?_
  refine aw_icmp_lt (tgt := 24) dX10_found_2 (by decide) (fun z => ?_) (fun z => ?_)
  · replace h := h.1 z
    refine aw_iconst (v := (-1)) dX10_found_24 (by decide) ?_
    exact aw_iret dX10_found_25 rfl rfl h
  · replace h := h.2 z
    refine aw_iload_n dX10_found_5 rfl rfl ?_
    refine aw_iconst (v := 1) dX10_found_6 (by decide) ?_
    refine aw_aload_n dX10_found_7 rfl rfl ?_
    refine aw_getf dX10_found_8 fl_X10_286 (by decide) ce_77 rfl (v := .int (M 77 34)) rfl ?_
    refine aw_ishl dX10_found_11 ?_
    refine aw_icmp_ge (tgt := 24) dX10_found_12 (by decide) (fun z => ?_) (fun z => ?_)
    · replace h := h.1 z
      refine aw_iconst (v := (-1)) dX10_found_24 (by decide) ?_
      exact aw_iret dX10_found_25 rfl rfl h
    · replace h := h.2 z
      refine aw_aload_n dX10_found_15 rfl rfl ?_
      refine aw_getf dX10_found_16 fl_X10_388 (by decide) ce_77 rfl (v := .int (M 77 50)) rfl ?_
      refine aw_bipush (v := 12) dX10_found_19 (by decide) ?_
      refine aw_icmp_ne (tgt := 26) dX10_found_21 (by decide) (fun z => ?_) (fun z => ?_)
      · replace h := h.1 z
        refine aw_aload_n dX10_found_26 rfl rfl ?_
        refine aw_getf dX10_found_27 fl_X10_107 (by decide) ce_77 rfl (v := .ref 110) rfl ?_
        refine aw_aload_n dX10_found_30 rfl rfl ?_
        refine aw_getf dX10_found_31 fl_X10_388 (by decide) ce_77 rfl (v := .int (M 77 50)) rfl ?_
        refine aw_iload_n dX10_found_34 rfl rfl ?_
        obtain ⟨h9, h⟩ := h
        refine aw_iast dX10_found_35 (by decide) ce_110 h9 ?_
        refine aw_aload_n dX10_found_36 rfl rfl ?_
        refine aw_aload_n dX10_found_37 rfl rfl ?_
        refine aw_getf dX10_found_38 fl_X10_388 (by decide) ce_77 rfl (v := .int (M 77 50)) rfl ?_
        refine aw_iconst (v := 1) dX10_found_41 (by decide) ?_
        refine aw_iadd dX10_found_42 ?_
        refine aw_putf dX10_found_43 fp_X10_388 (by decide) ce_77 rfl rfl rfl ?_
        refine aw_aload_n dX10_found_46 rfl rfl ?_
        refine aw_getf dX10_found_47 fl_X10_388 (by decide) ce_77 rfl (v := .int (((M 77 50) + 1))) rfl ?_
        exact aw_iret dX10_found_50 rfl rfl h
      · replace h := h.2 z
        refine aw_iconst (v := (-1)) dX10_found_24 (by decide) ?_
        exact aw_iret dX10_found_25 rfl rfl h
abbrev AX10_explains (d : Nat) (Q : Option Int32 → Mem → Prop) (pc : Nat) (L : List (Option Value)) (st : List Value) (M : Mem) : Prop := AW none RX10 cX10_explains 3 (some .boolean) d Q pc L st M
theorem eX10_explains {d : Nat} {Q : Option Int32 → Mem → Prop} (M : Mem) (x1 : Int32) (h : AX10_explains d Q 0 [lR 77, lI x1, none] [] M) : AM d iX10_explains [.ref 77, .int x1] M Q := AM.of2 (by decide) rfl rfl h
theorem bX10_explains_0 {d : Nat} {Q : Option Int32 → Mem → Prop} (M : Mem) (x1 : Int32) (h : AX10_explains d Q 2 [lR 77, lI x1, lI 0] [] M) : AX10_explains d Q 0 [lR 77, lI x1, none] [] M := by
  refine aw_iconst (v := 0) dX10_explains_0 (by decide) ?_
  refine aw_istore_n (L2 := [lR 77, lI x1, lI 0]) dX10_explains_1 rfl (by decide) rfl ?_
  exact h
theorem bX10_explains_2 {d : Nat} {Q : Option Int32 → Mem → Prop} (M : Mem) (x1 x2 : Int32) (h : ((M 77 50) ≤ x2 → Q (some 1) M) ∧ (¬ (M 77 50) ≤ x2 → (vp_in x2 12) ∧ ((¬ ((M 110 (ix x2)) &&& x1) = 0 → AX10_explains d Q 2 [lR 77, lI x1, lI (x2 + 1)] [] M) ∧ (((M 110 (ix x2)) &&& x1) = 0 → Q (some 0) M)))) : AX10_explains d Q 2 [lR 77, lI x1, lI x2] [] M := by
  refine aw_iload_n dX10_explains_2 rfl rfl ?_
  refine aw_aload_n dX10_explains_3 rfl rfl ?_
  refine aw_getf dX10_explains_4 fl_X10_388 (by decide) ce_77 rfl (v := .int (M 77 50)) rfl ?_
  refine aw_icmp_ge (tgt := 29) dX10_explains_7 (by decide) (fun z => ?_) (fun z => ?_)
  · replace h := h.1 z
    refine aw_iconst (v := 1) dX10_explains_29 (by decide) ?_
    exact aw_iret dX10_explains_30 rfl (nar_b (by decide)) h
  · replace h := h.2 z
    refine aw_aload_n dX10_explains_10 rfl rfl ?_
    refine aw_getf dX10_explains_11 fl_X10_107 (by decide) ce_77 rfl (v := .ref 110) rfl ?_
    refine aw_iload_n dX10_explains_14 rfl rfl ?_
    obtain ⟨h9, h⟩ := h
    refine aw_iald dX10_explains_15 (by decide) ce_110 h9 ?_
    refine aw_iload_n dX10_explains_16 rfl rfl ?_
    refine aw_iand dX10_explains_17 ?_
    refine aw_if_ne (tgt := 23) dX10_explains_18 (by decide) (fun z => ?_) (fun z => ?_)
    · replace h := h.1 z
      refine aw_iinc (y := 1) (L2 := [lR 77, lI x1, lI (x2 + 1)]) dX10_explains_23 rfl (by decide) (by decide) rfl ?_
      refine aw_goto (tgt := 2) dX10_explains_26 (by decide) ?_
      exact h
    · replace h := h.2 z
      refine aw_iconst (v := 0) dX10_explains_21 (by decide) ?_
      exact aw_iret dX10_explains_22 rfl (nar_b (by decide)) h
abbrev AX10_least (d : Nat) (Q : Option Int32 → Mem → Prop) (pc : Nat) (L : List (Option Value)) (st : List Value) (M : Mem) : Prop := AW none RX10 cX10_least 3 (some .int) d Q pc L st M
theorem eX10_least {d : Nat} {Q : Option Int32 → Mem → Prop} (M : Mem) (h : AX10_least d Q 0 [lR 77, none, none] [] M) : AM d iX10_least [.ref 77] M Q := AM.of2 (by decide) rfl rfl h
theorem bX10_least_0 {d : Nat} {Q : Option Int32 → Mem → Prop} (M : Mem) (h : AX10_least (d + 1) Q 4 [lR 77, lI (-1), lI 0] [] M) : AX10_least (d + 1) Q 0 [lR 77, none, none] [] M := by
  refine aw_iconst (v := (-1)) dX10_least_0 (by decide) ?_
  refine aw_istore_n (L2 := [lR 77, lI (-1), none]) dX10_least_1 rfl (by decide) rfl ?_
  refine aw_iconst (v := 0) dX10_least_2 (by decide) ?_
  refine aw_istore_n (L2 := [lR 77, lI (-1), lI 0]) dX10_least_3 rfl (by decide) rfl ?_
  exact h
theorem bX10_least_4 {d : Nat} {Q : Option Int32 → Mem → Prop} (M : Mem) (x1 x2 : Int32) (h : (4096 ≤ x2 → (¬ x1 = (-1) → Q (some x1) M) ∧ (x1 = (-1) → Q (some 0) M)) ∧ (¬ 4096 ≤ x2 → (x1 = (-1) → AX10_least (d + 1) Q 27 [lR 77, lI x1, lI x2] [] M) ∧ (¬ x1 = (-1) → ((bitsV x1) ≤ (bitsV x2) → AX10_least (d + 1) Q 4 [lR 77, lI x1, lI (x2 + 1)] [] M) ∧ (¬ (bitsV x1) ≤ (bitsV x2) → AX10_least (d + 1) Q 27 [lR 77, lI x1, lI x2] [] M)))) : AX10_least (d + 1) Q 4 [lR 77, lI x1, lI x2] [] M := by
  refine aw_iload_n dX10_least_4 rfl rfl ?_
  refine aw_sipush (v := 4096) dX10_least_5 (by decide) ?_
  refine aw_icmp_ge (tgt := 43) dX10_least_8 (by decide) (fun z => ?_) (fun z => ?_)
  · replace h := h.1 z
    refine aw_iload_n dX10_least_43 rfl rfl ?_
    refine aw_iconst (v := (-1)) dX10_least_44 (by decide) ?_
    refine aw_icmp_ne (tgt := 52) dX10_least_45 (by decide) (fun z => ?_) (fun z => ?_)
    · replace h := h.1 z
      refine aw_iload_n dX10_least_52 rfl rfl ?_
      exact aw_iret dX10_least_53 rfl rfl h
    · replace h := h.2 z
      refine aw_iconst (v := 0) dX10_least_48 (by decide) ?_
      refine aw_goto (tgt := 53) dX10_least_49 (by decide) ?_
      exact aw_iret dX10_least_53 rfl rfl h
  · replace h := h.2 z
    refine aw_iload_n dX10_least_11 rfl rfl ?_
    refine aw_iconst (v := (-1)) dX10_least_12 (by decide) ?_
    refine aw_icmp_eq (tgt := 27) dX10_least_13 (by decide) (fun z => ?_) (fun z => ?_)
    · replace h := h.1 z
      exact h
    · replace h := h.2 z
      refine aw_iload_n dX10_least_16 rfl rfl ?_
      refine aw_callS (mi := iX10_bits) (av := [.int x2]) (st := []) dX10_least_17 ml_X10_313 kX10_bits rfl rfl (Nat.le_of_ble_eq_true rfl) (AM.mono (p_X10_bits _) (fun r9 M9 e9 => ?_))
      obtain ⟨rfl, rfl⟩ := e9
      refine aw_iload_n dX10_least_20 rfl rfl ?_
      refine aw_callS (mi := iX10_bits) (av := [.int x1]) (st := [.int (bitsV x2)]) dX10_least_21 ml_X10_313 kX10_bits rfl rfl (Nat.le_of_ble_eq_true rfl) (AM.mono (p_X10_bits _) (fun r9 M9 e9 => ?_))
      obtain ⟨rfl, rfl⟩ := e9
      refine aw_icmp_ge (tgt := 37) dX10_least_24 (by decide) (fun z => ?_) (fun z => ?_)
      · replace h := h.1 z
        refine aw_iinc (y := 1) (L2 := [lR 77, lI x1, lI (x2 + 1)]) dX10_least_37 rfl (by decide) (by decide) rfl ?_
        refine aw_goto (tgt := 4) dX10_least_40 (by decide) ?_
        exact h
      · replace h := h.2 z
        exact h
theorem bX10_least_27 {d : Nat} {Q : Option Int32 → Mem → Prop} (M : Mem) (x1 x2 : Int32) (h : AMi d iX10_explains [.ref 77, .int x2] M (fun r1 M1 => (r1 = 0 → AX10_least (d + 1) Q 4 [lR 77, lI x1, lI (x2 + 1)] [] M1) ∧ (¬ r1 = 0 → AX10_least (d + 1) Q 4 [lR 77, lI x2, lI (x2 + 1)] [] M1))) : AX10_least (d + 1) Q 27 [lR 77, lI x1, lI x2] [] M := by
  refine aw_aload_n dX10_least_27 rfl rfl ?_
  refine aw_iload_n dX10_least_28 rfl rfl ?_
  refine aw_callV (mi := iX10_explains) (av := [.int x2]) (st := []) dX10_least_29 ml_X10_391 kX10_explains (by decide) ce_77 clX10 rfl rfl rfl (Nat.le_of_ble_eq_true rfl) (AM.mono h (fun r9 M1 h => ?_))
  obtain ⟨r1, rfl, h⟩ := h
  refine aw_if_eq (tgt := 37) dX10_least_32 (by decide) (fun z => ?_) (fun z => ?_)
  · replace h := h.1 z
    refine aw_iinc (y := 1) (L2 := [lR 77, lI x1, lI (x2 + 1)]) dX10_least_37 rfl (by decide) (by decide) rfl ?_
    refine aw_goto (tgt := 4) dX10_least_40 (by decide) ?_
    exact h
  · replace h := h.2 z
    refine aw_iload_n dX10_least_35 rfl rfl ?_
    refine aw_istore_n (L2 := [lR 77, lI x2, lI x2]) dX10_least_36 rfl (by decide) rfl ?_
    refine aw_iinc (y := 1) (L2 := [lR 77, lI x2, lI (x2 + 1)]) dX10_least_37 rfl (by decide) (by decide) rfl ?_
    refine aw_goto (tgt := 4) dX10_least_40 (by decide) ?_
    exact h
abbrev AX10_sideBySide (d : Nat) (Q : Option Int32 → Mem → Prop) (pc : Nat) (L : List (Option Value)) (st : List Value) (M : Mem) : Prop := AW none RX10 cX10_sideBySide 3 (some .int) d Q pc L st M
theorem eX10_sideBySide {d : Nat} {Q : Option Int32 → Mem → Prop} (M : Mem) (x1 : Int32) (h : AX10_sideBySide d Q 0 [lR 77, lI x1, none] [] M) : AM d iX10_sideBySide [.ref 77, .int x1] M Q := AM.of2 (by decide) rfl rfl h
theorem bX10_sideBySide_0 {d : Nat} {Q : Option Int32 → Mem → Prop} (M : Mem) (x1 : Int32) (h : (¬ (inV x1 0 1) = 0 → AMi d iX10_holding [.ref 77, .int x1] M (fun r1 M1 => AMi d iX10_holding [.ref 77, .int (1 - x1)] M1 (fun r2 M2 => Q (some (r1 &&& (r2 ^^^ (-1)))) M2))) ∧ ((inV x1 0 1) = 0 → Q (some (-1)) M)) : AX10_sideBySide (d + 1) Q 0 [lR 77, lI x1, none] [] M := by
  refine aw_iload_n dX10_sideBySide_0 rfl rfl ?_
  refine aw_iconst (v := 0) dX10_sideBySide_1 (by decide) ?_
  refine aw_iconst (v := 1) dX10_sideBySide_2 (by decide) ?_
  refine aw_callS (mi := iX10_in) (av := [.int x1, .int 0, .int 1]) (st := []) dX10_sideBySide_3 ml_X10_152 kX10_in rfl rfl (Nat.le_of_ble_eq_true rfl) (AM.mono (p_X10_in _ _ _) (fun r9 M9 e9 => ?_))
  obtain ⟨rfl, rfl⟩ := e9
  refine aw_if_ne (tgt := 11) dX10_sideBySide_6 (by decide) (fun z => ?_) (fun z => ?_)
  · replace h := h.1 z
    refine aw_aload_n dX10_sideBySide_11 rfl rfl ?_
    refine aw_iload_n dX10_sideBySide_12 rfl rfl ?_
    refine aw_callV (mi := iX10_holding) (av := [.int x1]) (st := []) dX10_sideBySide_13 ml_X10_345 kX10_holding (by decide) ce_77 clX10 rfl rfl rfl (Nat.le_of_ble_eq_true rfl) (AM.mono h (fun r9 M1 h => ?_))
    obtain ⟨r1, rfl, h⟩ := h
    refine aw_istore_n (L2 := [lR 77, lI x1, lI r1]) dX10_sideBySide_16 rfl (by decide) rfl ?_
    refine aw_iload_n dX10_sideBySide_17 rfl rfl ?_
    refine aw_aload_n dX10_sideBySide_18 rfl rfl ?_
    refine aw_iconst (v := 1) dX10_sideBySide_19 (by decide) ?_
    refine aw_iload_n dX10_sideBySide_20 rfl rfl ?_
    refine aw_isub dX10_sideBySide_21 ?_
    refine aw_callV (mi := iX10_holding) (av := [.int (1 - x1)]) (st := [.int r1]) dX10_sideBySide_22 ml_X10_345 kX10_holding (by decide) ce_77 clX10 rfl rfl rfl (Nat.le_of_ble_eq_true rfl) (AM.mono h (fun r9 M2 h => ?_))
    obtain ⟨r2, rfl, h⟩ := h
    refine aw_iconst (v := (-1)) dX10_sideBySide_25 (by decide) ?_
    refine aw_ixor dX10_sideBySide_26 ?_
    refine aw_iand dX10_sideBySide_27 ?_
    exact aw_iret dX10_sideBySide_28 rfl rfl h
  · replace h := h.2 z
    refine aw_iconst (v := (-1)) dX10_sideBySide_9 (by decide) ?_
    exact aw_iret dX10_sideBySide_10 rfl rfl h
abbrev AX10_seed (d : Nat) (Q : Option Int32 → Mem → Prop) (pc : Nat) (L : List (Option Value)) (st : List Value) (M : Mem) : Prop := AW none RX10 cX10_seed 2 (some .boolean) d Q pc L st M
theorem eX10_seed {d : Nat} {Q : Option Int32 → Mem → Prop} (M : Mem) (x1 : Int32) (h : AX10_seed d Q 0 [lR 77, lI x1] [] M) : AM d iX10_seed [.ref 77, .int x1] M Q := AM.of2 (by decide) rfl rfl h
theorem bX10_seed_0 {d : Nat} {Q : Option Int32 → Mem → Prop} (M : Mem) (x1 : Int32) (h : (¬ (inV x1 0 65535) = 0 → Q (some 1) (wr M 77 3 x1)) ∧ ((inV x1 0 65535) = 0 → Q (some 0) M)) : AX10_seed (d + 1) Q 0 [lR 77, lI x1] [] M := by
  refine aw_iload_n dX10_seed_0 rfl rfl ?_
  refine aw_iconst (v := 0) dX10_seed_1 (by decide) ?_
  refine aw_ldcw dX10_seed_2 kc_X10_394 ?_
  refine aw_callS (mi := iX10_in) (av := [.int x1, .int 0, .int 65535]) (st := []) dX10_seed_5 ml_X10_152 kX10_in rfl rfl (Nat.le_of_ble_eq_true rfl) (AM.mono (p_X10_in _ _ _) (fun r9 M9 e9 => ?_))
  obtain ⟨rfl, rfl⟩ := e9
  refine aw_if_ne (tgt := 13) dX10_seed_8 (by decide) (fun z => ?_) (fun z => ?_)
  · replace h := h.1 z
    refine aw_aload_n dX10_seed_13 rfl rfl ?_
    refine aw_iload_n dX10_seed_14 rfl rfl ?_
    refine aw_putf dX10_seed_15 fp_X10_134 (by decide) ce_77 rfl rfl rfl ?_
    refine aw_iconst (v := 1) dX10_seed_18 (by decide) ?_
    exact aw_iret dX10_seed_19 rfl (nar_b (by decide)) h
  · replace h := h.2 z
    refine aw_iconst (v := 0) dX10_seed_11 (by decide) ?_
    exact aw_iret dX10_seed_12 rfl (nar_b (by decide)) h
abbrev AX10_keep (d : Nat) (Q : Option Int32 → Mem → Prop) (pc : Nat) (L : List (Option Value)) (st : List Value) (M : Mem) : Prop := AW none RX10 cX10_keep 1 (some .int) d Q pc L st M
theorem eX10_keep {d : Nat} {Q : Option Int32 → Mem → Prop} (M : Mem) (h : AX10_keep d Q 0 [lR 77] [] M) : AM d iX10_keep [.ref 77] M Q := AM.of2 (by decide) rfl rfl h
theorem bX10_keep_0 {d : Nat} {Q : Option Int32 → Mem → Prop} (M : Mem) (h : AMv d iX10_copies [.ref 78, .ref 111, .int 16] (wr (wr (wr (wr (wr (wr M 77 52 1) 77 53 (M 77 0)) 77 54 (M 77 1)) 77 55 (M 77 2)) 77 56 (M 77 3)) 77 57 (M 77 34)) (fun M1 => AMv d iX10_copies [.ref 79, .ref 112, .int 16] M1 (fun M2 => AMv d iX10_copies [.ref 80, .ref 113, .int 16] M2 (fun M3 => AMv d iX10_copies [.ref 81, .ref 114, .int 16] M3 (fun M4 => AMv d iX10_copies [.ref 82, .ref 115, .int 16] M4 (fun M5 => AMv d iX10_copies [.ref 99, .ref 116, .int 12] M5 (fun M6 => AMv d iX10_copies [.ref 100, .ref 117, .int 12] M6 (fun M7 => AMv d iX10_copies [.ref 101, .ref 118, .int 12] M7 (fun M8 => AMi d iX10_holding [.ref 77, .int 0] M8 (fun r9 M9 => Q (some (bitsV r9)) M9)))))))))) : AX10_keep (d + 1) Q 0 [lR 77] [] M := by
  refine aw_aload_n dX10_keep_0 rfl rfl ?_
  refine aw_iconst (v := 1) dX10_keep_1 (by decide) ?_
  refine aw_putf dX10_keep_2 fp_X10_395 (by decide) ce_77 rfl (nar_b (by decide)) (fit_b (by decide)) ?_
  refine aw_aload_n dX10_keep_5 rfl rfl ?_
  refine aw_aload_n dX10_keep_6 rfl rfl ?_
  refine aw_getf dX10_keep_7 fl_X10_138 (by decide) ce_77 rfl (v := .int (M 77 0)) rfl ?_
  refine aw_putf dX10_keep_10 fp_X10_399 (by decide) ce_77 rfl rfl rfl ?_
  refine aw_aload_n dX10_keep_13 rfl rfl ?_
  refine aw_aload_n dX10_keep_14 rfl rfl ?_
  refine aw_getf dX10_keep_15 fl_X10_145 (by decide) ce_77 rfl (v := .int (M 77 1)) rfl ?_
  refine aw_putf dX10_keep_18 fp_X10_402 (by decide) ce_77 rfl rfl rfl ?_
  refine aw_aload_n dX10_keep_21 rfl rfl ?_
  refine aw_aload_n dX10_keep_22 rfl rfl ?_
  refine aw_getf dX10_keep_23 fl_X10_270 (by decide) ce_77 rfl (v := .int (M 77 2)) rfl ?_
  refine aw_putf dX10_keep_26 fp_X10_405 (by decide) ce_77 rfl rfl rfl ?_
  refine aw_aload_n dX10_keep_29 rfl rfl ?_
  refine aw_aload_n dX10_keep_30 rfl rfl ?_
  refine aw_getf dX10_keep_31 fl_X10_134 (by decide) ce_77 rfl (v := .int (M 77 3)) rfl ?_
  refine aw_putf dX10_keep_34 fp_X10_408 (by decide) ce_77 rfl rfl rfl ?_
  refine aw_aload_n dX10_keep_37 rfl rfl ?_
  refine aw_aload_n dX10_keep_38 rfl rfl ?_
  refine aw_getf dX10_keep_39 fl_X10_286 (by decide) ce_77 rfl (v := .int (M 77 34)) rfl ?_
  refine aw_putf dX10_keep_42 fp_X10_411 (by decide) ce_77 rfl rfl rfl ?_
  refine aw_aload_n dX10_keep_45 rfl rfl ?_
  refine aw_getf dX10_keep_46 fl_X10_7 (by decide) ce_77 rfl (v := .ref 78) rfl ?_
  refine aw_aload_n dX10_keep_49 rfl rfl ?_
  refine aw_getf dX10_keep_50 fl_X10_110 (by decide) ce_77 rfl (v := .ref 111) rfl ?_
  refine aw_bipush (v := 16) dX10_keep_53 (by decide) ?_
  refine aw_callS (mi := iX10_copies) (av := [.ref 78, .ref 111, .int 16]) (st := []) dX10_keep_55 ml_X10_338 kX10_copies rfl rfl (Nat.le_of_ble_eq_true rfl) (AM.mono h (fun r9 M1 h => ?_))
  obtain ⟨rfl, h⟩ := h
  refine aw_aload_n dX10_keep_58 rfl rfl ?_
  refine aw_getf dX10_keep_59 fl_X10_13 (by decide) ce_77 rfl (v := .ref 79) rfl ?_
  refine aw_aload_n dX10_keep_62 rfl rfl ?_
  refine aw_getf dX10_keep_63 fl_X10_113 (by decide) ce_77 rfl (v := .ref 112) rfl ?_
  refine aw_bipush (v := 16) dX10_keep_66 (by decide) ?_
  refine aw_callS (mi := iX10_copies) (av := [.ref 79, .ref 112, .int 16]) (st := []) dX10_keep_68 ml_X10_338 kX10_copies rfl rfl (Nat.le_of_ble_eq_true rfl) (AM.mono h (fun r9 M2 h => ?_))
  obtain ⟨rfl, h⟩ := h
  refine aw_aload_n dX10_keep_71 rfl rfl ?_
  refine aw_getf dX10_keep_72 fl_X10_16 (by decide) ce_77 rfl (v := .ref 80) rfl ?_
  refine aw_aload_n dX10_keep_75 rfl rfl ?_
  refine aw_getf dX10_keep_76 fl_X10_116 (by decide) ce_77 rfl (v := .ref 113) rfl ?_
  refine aw_bipush (v := 16) dX10_keep_79 (by decide) ?_
  refine aw_callS (mi := iX10_copies) (av := [.ref 80, .ref 113, .int 16]) (st := []) dX10_keep_81 ml_X10_338 kX10_copies rfl rfl (Nat.le_of_ble_eq_true rfl) (AM.mono h (fun r9 M3 h => ?_))
  obtain ⟨rfl, h⟩ := h
  refine aw_aload_n dX10_keep_84 rfl rfl ?_
  refine aw_getf dX10_keep_85 fl_X10_19 (by decide) ce_77 rfl (v := .ref 81) rfl ?_
  refine aw_aload_n dX10_keep_88 rfl rfl ?_
  refine aw_getf dX10_keep_89 fl_X10_119 (by decide) ce_77 rfl (v := .ref 114) rfl ?_
  refine aw_bipush (v := 16) dX10_keep_92 (by decide) ?_
  refine aw_callS (mi := iX10_copies) (av := [.ref 81, .ref 114, .int 16]) (st := []) dX10_keep_94 ml_X10_338 kX10_copies rfl rfl (Nat.le_of_ble_eq_true rfl) (AM.mono h (fun r9 M4 h => ?_))
  obtain ⟨rfl, h⟩ := h
  refine aw_aload_n dX10_keep_97 rfl rfl ?_
  refine aw_getf dX10_keep_98 fl_X10_22 (by decide) ce_77 rfl (v := .ref 82) rfl ?_
  refine aw_aload_n dX10_keep_101 rfl rfl ?_
  refine aw_getf dX10_keep_102 fl_X10_122 (by decide) ce_77 rfl (v := .ref 115) rfl ?_
  refine aw_bipush (v := 16) dX10_keep_105 (by decide) ?_
  refine aw_callS (mi := iX10_copies) (av := [.ref 82, .ref 115, .int 16]) (st := []) dX10_keep_107 ml_X10_338 kX10_copies rfl rfl (Nat.le_of_ble_eq_true rfl) (AM.mono h (fun r9 M5 h => ?_))
  obtain ⟨rfl, h⟩ := h
  refine aw_aload_n dX10_keep_110 rfl rfl ?_
  refine aw_getf dX10_keep_111 fl_X10_74 (by decide) ce_77 rfl (v := .ref 99) rfl ?_
  refine aw_aload_n dX10_keep_114 rfl rfl ?_
  refine aw_getf dX10_keep_115 fl_X10_125 (by decide) ce_77 rfl (v := .ref 116) rfl ?_
  refine aw_bipush (v := 12) dX10_keep_118 (by decide) ?_
  refine aw_callS (mi := iX10_copies) (av := [.ref 99, .ref 116, .int 12]) (st := []) dX10_keep_120 ml_X10_338 kX10_copies rfl rfl (Nat.le_of_ble_eq_true rfl) (AM.mono h (fun r9 M6 h => ?_))
  obtain ⟨rfl, h⟩ := h
  refine aw_aload_n dX10_keep_123 rfl rfl ?_
  refine aw_getf dX10_keep_124 fl_X10_77 (by decide) ce_77 rfl (v := .ref 100) rfl ?_
  refine aw_aload_n dX10_keep_127 rfl rfl ?_
  refine aw_getf dX10_keep_128 fl_X10_128 (by decide) ce_77 rfl (v := .ref 117) rfl ?_
  refine aw_bipush (v := 12) dX10_keep_131 (by decide) ?_
  refine aw_callS (mi := iX10_copies) (av := [.ref 100, .ref 117, .int 12]) (st := []) dX10_keep_133 ml_X10_338 kX10_copies rfl rfl (Nat.le_of_ble_eq_true rfl) (AM.mono h (fun r9 M7 h => ?_))
  obtain ⟨rfl, h⟩ := h
  refine aw_aload_n dX10_keep_136 rfl rfl ?_
  refine aw_getf dX10_keep_137 fl_X10_80 (by decide) ce_77 rfl (v := .ref 101) rfl ?_
  refine aw_aload_n dX10_keep_140 rfl rfl ?_
  refine aw_getf dX10_keep_141 fl_X10_131 (by decide) ce_77 rfl (v := .ref 118) rfl ?_
  refine aw_bipush (v := 12) dX10_keep_144 (by decide) ?_
  refine aw_callS (mi := iX10_copies) (av := [.ref 101, .ref 118, .int 12]) (st := []) dX10_keep_146 ml_X10_338 kX10_copies rfl rfl (Nat.le_of_ble_eq_true rfl) (AM.mono h (fun r9 M8 h => ?_))
  obtain ⟨rfl, h⟩ := h
  refine aw_aload_n dX10_keep_149 rfl rfl ?_
  refine aw_iconst (v := 0) dX10_keep_150 (by decide) ?_
  refine aw_callV (mi := iX10_holding) (av := [.int 0]) (st := []) dX10_keep_151 ml_X10_345 kX10_holding (by decide) ce_77 clX10 rfl rfl rfl (Nat.le_of_ble_eq_true rfl) (AM.mono h (fun r9 M9 h => ?_))
  obtain ⟨r9, rfl, h⟩ := h
  refine aw_callS (mi := iX10_bits) (av := [.int r9]) (st := []) dX10_keep_154 ml_X10_313 kX10_bits rfl rfl (Nat.le_of_ble_eq_true rfl) (AM.mono (p_X10_bits _) (fun r9 M9 e9 => ?_))
  obtain ⟨rfl, rfl⟩ := e9
  exact aw_iret dX10_keep_157 rfl rfl h
abbrev AX10_undo (d : Nat) (Q : Option Int32 → Mem → Prop) (pc : Nat) (L : List (Option Value)) (st : List Value) (M : Mem) : Prop := AW none RX10 cX10_undo 1 (some .boolean) d Q pc L st M
theorem eX10_undo {d : Nat} {Q : Option Int32 → Mem → Prop} (M : Mem) (h : AX10_undo d Q 0 [lR 77] [] M) : AM d iX10_undo [.ref 77] M Q := AM.of2 (by decide) rfl rfl h
theorem bX10_undo_0 {d : Nat} {Q : Option Int32 → Mem → Prop} (M : Mem) (h : (¬ (M 77 52) = 0 → AMv d iX10_copies [.ref 111, .ref 78, .int 16] (wr (wr (wr (wr (wr M 77 0 (M 77 53)) 77 1 (M 77 54)) 77 2 (M 77 55)) 77 3 (M 77 56)) 77 34 (M 77 57)) (fun M1 => AMv d iX10_copies [.ref 112, .ref 79, .int 16] M1 (fun M2 => AMv d iX10_copies [.ref 113, .ref 80, .int 16] M2 (fun M3 => AMv d iX10_copies [.ref 114, .ref 81, .int 16] M3 (fun M4 => AMv d iX10_copies [.ref 115, .ref 82, .int 16] M4 (fun M5 => AMv d iX10_copies [.ref 116, .ref 99, .int 12] M5 (fun M6 => AMv d iX10_copies [.ref 117, .ref 100, .int 12] M6 (fun M7 => AMv d iX10_copies [.ref 118, .ref 101, .int 12] M7 (fun M8 => Q (some 1) M8))))))))) ∧ ((M 77 52) = 0 → Q (some 0) M)) : AX10_undo (d + 1) Q 0 [lR 77] [] M := by
  refine aw_aload_n dX10_undo_0 rfl rfl ?_
  refine aw_getf dX10_undo_1 fl_X10_395 (by decide) ce_77 rfl (v := .int (M 77 52)) rfl ?_
  refine aw_if_ne (tgt := 9) dX10_undo_4 (by decide) (fun z => ?_) (fun z => ?_)
  · replace h := h.1 z
    refine aw_aload_n dX10_undo_9 rfl rfl ?_
    refine aw_aload_n dX10_undo_10 rfl rfl ?_
    refine aw_getf dX10_undo_11 fl_X10_399 (by decide) ce_77 rfl (v := .int (M 77 53)) rfl ?_
    refine aw_putf dX10_undo_14 fp_X10_138 (by decide) ce_77 rfl rfl rfl ?_
    refine aw_aload_n dX10_undo_17 rfl rfl ?_
    refine aw_aload_n dX10_undo_18 rfl rfl ?_
    refine aw_getf dX10_undo_19 fl_X10_402 (by decide) ce_77 rfl (v := .int (M 77 54)) rfl ?_
    refine aw_putf dX10_undo_22 fp_X10_145 (by decide) ce_77 rfl rfl rfl ?_
    refine aw_aload_n dX10_undo_25 rfl rfl ?_
    refine aw_aload_n dX10_undo_26 rfl rfl ?_
    refine aw_getf dX10_undo_27 fl_X10_405 (by decide) ce_77 rfl (v := .int (M 77 55)) rfl ?_
    refine aw_putf dX10_undo_30 fp_X10_270 (by decide) ce_77 rfl rfl rfl ?_
    refine aw_aload_n dX10_undo_33 rfl rfl ?_
    refine aw_aload_n dX10_undo_34 rfl rfl ?_
    refine aw_getf dX10_undo_35 fl_X10_408 (by decide) ce_77 rfl (v := .int (M 77 56)) rfl ?_
    refine aw_putf dX10_undo_38 fp_X10_134 (by decide) ce_77 rfl rfl rfl ?_
    refine aw_aload_n dX10_undo_41 rfl rfl ?_
    refine aw_aload_n dX10_undo_42 rfl rfl ?_
    refine aw_getf dX10_undo_43 fl_X10_411 (by decide) ce_77 rfl (v := .int (M 77 57)) rfl ?_
    refine aw_putf dX10_undo_46 fp_X10_286 (by decide) ce_77 rfl rfl rfl ?_
    refine aw_aload_n dX10_undo_49 rfl rfl ?_
    refine aw_getf dX10_undo_50 fl_X10_110 (by decide) ce_77 rfl (v := .ref 111) rfl ?_
    refine aw_aload_n dX10_undo_53 rfl rfl ?_
    refine aw_getf dX10_undo_54 fl_X10_7 (by decide) ce_77 rfl (v := .ref 78) rfl ?_
    refine aw_bipush (v := 16) dX10_undo_57 (by decide) ?_
    refine aw_callS (mi := iX10_copies) (av := [.ref 111, .ref 78, .int 16]) (st := []) dX10_undo_59 ml_X10_338 kX10_copies rfl rfl (Nat.le_of_ble_eq_true rfl) (AM.mono h (fun r9 M1 h => ?_))
    obtain ⟨rfl, h⟩ := h
    refine aw_aload_n dX10_undo_62 rfl rfl ?_
    refine aw_getf dX10_undo_63 fl_X10_113 (by decide) ce_77 rfl (v := .ref 112) rfl ?_
    refine aw_aload_n dX10_undo_66 rfl rfl ?_
    refine aw_getf dX10_undo_67 fl_X10_13 (by decide) ce_77 rfl (v := .ref 79) rfl ?_
    refine aw_bipush (v := 16) dX10_undo_70 (by decide) ?_
    refine aw_callS (mi := iX10_copies) (av := [.ref 112, .ref 79, .int 16]) (st := []) dX10_undo_72 ml_X10_338 kX10_copies rfl rfl (Nat.le_of_ble_eq_true rfl) (AM.mono h (fun r9 M2 h => ?_))
    obtain ⟨rfl, h⟩ := h
    refine aw_aload_n dX10_undo_75 rfl rfl ?_
    refine aw_getf dX10_undo_76 fl_X10_116 (by decide) ce_77 rfl (v := .ref 113) rfl ?_
    refine aw_aload_n dX10_undo_79 rfl rfl ?_
    refine aw_getf dX10_undo_80 fl_X10_16 (by decide) ce_77 rfl (v := .ref 80) rfl ?_
    refine aw_bipush (v := 16) dX10_undo_83 (by decide) ?_
    refine aw_callS (mi := iX10_copies) (av := [.ref 113, .ref 80, .int 16]) (st := []) dX10_undo_85 ml_X10_338 kX10_copies rfl rfl (Nat.le_of_ble_eq_true rfl) (AM.mono h (fun r9 M3 h => ?_))
    obtain ⟨rfl, h⟩ := h
    refine aw_aload_n dX10_undo_88 rfl rfl ?_
    refine aw_getf dX10_undo_89 fl_X10_119 (by decide) ce_77 rfl (v := .ref 114) rfl ?_
    refine aw_aload_n dX10_undo_92 rfl rfl ?_
    refine aw_getf dX10_undo_93 fl_X10_19 (by decide) ce_77 rfl (v := .ref 81) rfl ?_
    refine aw_bipush (v := 16) dX10_undo_96 (by decide) ?_
    refine aw_callS (mi := iX10_copies) (av := [.ref 114, .ref 81, .int 16]) (st := []) dX10_undo_98 ml_X10_338 kX10_copies rfl rfl (Nat.le_of_ble_eq_true rfl) (AM.mono h (fun r9 M4 h => ?_))
    obtain ⟨rfl, h⟩ := h
    refine aw_aload_n dX10_undo_101 rfl rfl ?_
    refine aw_getf dX10_undo_102 fl_X10_122 (by decide) ce_77 rfl (v := .ref 115) rfl ?_
    refine aw_aload_n dX10_undo_105 rfl rfl ?_
    refine aw_getf dX10_undo_106 fl_X10_22 (by decide) ce_77 rfl (v := .ref 82) rfl ?_
    refine aw_bipush (v := 16) dX10_undo_109 (by decide) ?_
    refine aw_callS (mi := iX10_copies) (av := [.ref 115, .ref 82, .int 16]) (st := []) dX10_undo_111 ml_X10_338 kX10_copies rfl rfl (Nat.le_of_ble_eq_true rfl) (AM.mono h (fun r9 M5 h => ?_))
    obtain ⟨rfl, h⟩ := h
    refine aw_aload_n dX10_undo_114 rfl rfl ?_
    refine aw_getf dX10_undo_115 fl_X10_125 (by decide) ce_77 rfl (v := .ref 116) rfl ?_
    refine aw_aload_n dX10_undo_118 rfl rfl ?_
    refine aw_getf dX10_undo_119 fl_X10_74 (by decide) ce_77 rfl (v := .ref 99) rfl ?_
    refine aw_bipush (v := 12) dX10_undo_122 (by decide) ?_
    refine aw_callS (mi := iX10_copies) (av := [.ref 116, .ref 99, .int 12]) (st := []) dX10_undo_124 ml_X10_338 kX10_copies rfl rfl (Nat.le_of_ble_eq_true rfl) (AM.mono h (fun r9 M6 h => ?_))
    obtain ⟨rfl, h⟩ := h
    refine aw_aload_n dX10_undo_127 rfl rfl ?_
    refine aw_getf dX10_undo_128 fl_X10_128 (by decide) ce_77 rfl (v := .ref 117) rfl ?_
    refine aw_aload_n dX10_undo_131 rfl rfl ?_
    refine aw_getf dX10_undo_132 fl_X10_77 (by decide) ce_77 rfl (v := .ref 100) rfl ?_
    refine aw_bipush (v := 12) dX10_undo_135 (by decide) ?_
    refine aw_callS (mi := iX10_copies) (av := [.ref 117, .ref 100, .int 12]) (st := []) dX10_undo_137 ml_X10_338 kX10_copies rfl rfl (Nat.le_of_ble_eq_true rfl) (AM.mono h (fun r9 M7 h => ?_))
    obtain ⟨rfl, h⟩ := h
    refine aw_aload_n dX10_undo_140 rfl rfl ?_
    refine aw_getf dX10_undo_141 fl_X10_131 (by decide) ce_77 rfl (v := .ref 118) rfl ?_
    refine aw_aload_n dX10_undo_144 rfl rfl ?_
    refine aw_getf dX10_undo_145 fl_X10_80 (by decide) ce_77 rfl (v := .ref 101) rfl ?_
    refine aw_bipush (v := 12) dX10_undo_148 (by decide) ?_
    refine aw_callS (mi := iX10_copies) (av := [.ref 118, .ref 101, .int 12]) (st := []) dX10_undo_150 ml_X10_338 kX10_copies rfl rfl (Nat.le_of_ble_eq_true rfl) (AM.mono h (fun r9 M8 h => ?_))
    obtain ⟨rfl, h⟩ := h
    refine aw_iconst (v := 1) dX10_undo_153 (by decide) ?_
    exact aw_iret dX10_undo_154 rfl (nar_b (by decide)) h
  · replace h := h.2 z
    refine aw_iconst (v := 0) dX10_undo_7 (by decide) ?_
    exact aw_iret dX10_undo_8 rfl (nar_b (by decide)) h
abbrev AX10_tapeNumber (d : Nat) (Q : Option Int32 → Mem → Prop) (pc : Nat) (L : List (Option Value)) (st : List Value) (M : Mem) : Prop := AW none RX10 cX10_tapeNumber 4 (some .int) d Q pc L st M
theorem eX10_tapeNumber {d : Nat} {Q : Option Int32 → Mem → Prop} (M : Mem) (x1 : Int32) (h : AX10_tapeNumber d Q 0 [lR 77, lI x1, none, none] [] M) : AM d iX10_tapeNumber [.ref 77, .int x1] M Q := AM.of2 (by decide) rfl rfl h
theorem bX10_tapeNumber_0 {d : Nat} {Q : Option Int32 → Mem → Prop} (M : Mem) (x1 : Int32) (h : AX10_tapeNumber d Q 6 [lR 77, lI x1, lI 0, lI (4 * x1)] [] M) : AX10_tapeNumber d Q 0 [lR 77, lI x1, none, none] [] M := by
  refine aw_iconst (v := 0) dX10_tapeNumber_0 (by decide) ?_
  refine aw_istore_n (L2 := [lR 77, lI x1, lI 0, none]) dX10_tapeNumber_1 rfl (by decide) rfl ?_
  refine aw_iconst (v := 4) dX10_tapeNumber_2 (by decide) ?_
  refine aw_iload_n dX10_tapeNumber_3 rfl rfl ?_
  refine aw_imul dX10_tapeNumber_4 ?_
  refine aw_istore_n (L2 := [lR 77, lI x1, lI 0, lI (4 * x1)]) dX10_tapeNumber_5 rfl (by decide) rfl ?_
  exact h
theorem bX10_tapeNumber_6 {d : Nat} {Q : Option Int32 → Mem → Prop} (M : Mem) (x1 x2 x3 : Int32) (h : (((4 * x1) + 4) ≤ x3 → Q (some x2) M) ∧ (¬ ((4 * x1) + 4) ≤ x3 → (vp_in x3 200) ∧ (AX10_tapeNumber d Q 6 [lR 77, lI x1, lI ((x2 <<< (8 &&& 31)) ||| ((M 83 (ix x3)) &&& 255)), lI (x3 + 1)] [] M))) : AX10_tapeNumber d Q 6 [lR 77, lI x1, lI x2, lI x3] [] M := by
  refine aw_iload_n dX10_tapeNumber_6 rfl rfl ?_
  refine aw_iconst (v := 4) dX10_tapeNumber_7 (by decide) ?_
  refine aw_iload_n dX10_tapeNumber_8 rfl rfl ?_
  refine aw_imul dX10_tapeNumber_9 ?_
  refine aw_iconst (v := 4) dX10_tapeNumber_10 (by decide) ?_
  refine aw_iadd dX10_tapeNumber_11 ?_
  refine aw_icmp_ge (tgt := 37) dX10_tapeNumber_12 (by decide) (fun z => ?_) (fun z => ?_)
  · replace h := h.1 z
    refine aw_iload_n dX10_tapeNumber_37 rfl rfl ?_
    exact aw_iret dX10_tapeNumber_38 rfl rfl h
  · replace h := h.2 z
    refine aw_iload_n dX10_tapeNumber_15 rfl rfl ?_
    refine aw_bipush (v := 8) dX10_tapeNumber_16 (by decide) ?_
    refine aw_ishl dX10_tapeNumber_18 ?_
    refine aw_aload_n dX10_tapeNumber_19 rfl rfl ?_
    refine aw_getf dX10_tapeNumber_20 fl_X10_25 (by decide) ce_77 rfl (v := .ref 83) rfl ?_
    refine aw_iload_n dX10_tapeNumber_23 rfl rfl ?_
    obtain ⟨h9, h⟩ := h
    refine aw_bald dX10_tapeNumber_24 (by decide) ce_83 h9 ?_
    refine aw_sipush (v := 255) dX10_tapeNumber_25 (by decide) ?_
    refine aw_iand dX10_tapeNumber_28 ?_
    refine aw_ior dX10_tapeNumber_29 ?_
    refine aw_istore_n (L2 := [lR 77, lI x1, lI ((x2 <<< (8 &&& 31)) ||| ((M 83 (ix x3)) &&& 255)), lI x3]) dX10_tapeNumber_30 rfl (by decide) rfl ?_
    refine aw_iinc (y := 1) (L2 := [lR 77, lI x1, lI ((x2 <<< (8 &&& 31)) ||| ((M 83 (ix x3)) &&& 255)), lI (x3 + 1)]) dX10_tapeNumber_31 rfl (by decide) (by decide) rfl ?_
    refine aw_goto (tgt := 6) dX10_tapeNumber_34 (by decide) ?_
    exact h
abbrev AX10_check (d : Nat) (Q : Option Int32 → Mem → Prop) (pc : Nat) (L : List (Option Value)) (st : List Value) (M : Mem) : Prop := AW none RX10 cX10_check 3 (some .int) d Q pc L st M
theorem eX10_check {d : Nat} {Q : Option Int32 → Mem → Prop} (M : Mem) (x1 : Int32) (h : AX10_check d Q 0 [lR 77, lI x1, none] [] M) : AM d iX10_check [.ref 77, .int x1] M Q := AM.of2 (by decide) rfl rfl h
theorem bX10_check_0 {d : Nat} {Q : Option Int32 → Mem → Prop} (M : Mem) (x1 : Int32) (h : ((inV x1 0 16) = 0 → Q (some (-2)) M) ∧ (¬ (inV x1 0 16) = 0 → (x1 ≤ ((M 77 10) / 4) → AX10_check (d + 1) Q 30 [lR 77, lI x1, lI 0] [] (wr M 77 10 0)) ∧ (¬ x1 ≤ ((M 77 10) / 4) → Q (some (-2)) M))) : AX10_check (d + 1) Q 0 [lR 77, lI x1, none] [] M := by
  refine aw_iload_n dX10_check_0 rfl rfl ?_
  refine aw_iconst (v := 0) dX10_check_1 (by decide) ?_
  refine aw_bipush (v := 16) dX10_check_2 (by decide) ?_
  refine aw_callS (mi := iX10_in) (av := [.int x1, .int 0, .int 16]) (st := []) dX10_check_4 ml_X10_152 kX10_in rfl rfl (Nat.le_of_ble_eq_true rfl) (AM.mono (p_X10_in _ _ _) (fun r9 M9 e9 => ?_))
  obtain ⟨rfl, rfl⟩ := e9
  refine aw_if_eq (tgt := 20) dX10_check_7 (by decide) (fun z => ?_) (fun z => ?_)
  · replace h := h.1 z
    refine aw_bipush (v := (-2)) dX10_check_20 (by decide) ?_
    exact aw_iret dX10_check_22 rfl rfl h
  · replace h := h.2 z
    refine aw_iload_n dX10_check_10 rfl rfl ?_
    refine aw_aload_n dX10_check_11 rfl rfl ?_
    refine aw_getf dX10_check_12 fl_X10_167 (by decide) ce_77 rfl (v := .int (M 77 10)) rfl ?_
    refine aw_iconst (v := 4) dX10_check_15 (by decide) ?_
    refine aw_idiv dX10_check_16 (by decide) ?_
    refine aw_icmp_le (tgt := 23) dX10_check_17 (by decide) (fun z => ?_) (fun z => ?_)
    · replace h := h.1 z
      refine aw_aload_n dX10_check_23 rfl rfl ?_
      refine aw_iconst (v := 0) dX10_check_24 (by decide) ?_
      refine aw_putf dX10_check_25 fp_X10_167 (by decide) ce_77 rfl rfl rfl ?_
      refine aw_iconst (v := 0) dX10_check_28 (by decide) ?_
      refine aw_istore_n (L2 := [lR 77, lI x1, lI 0]) dX10_check_29 rfl (by decide) rfl ?_
      exact h
    · replace h := h.2 z
      refine aw_bipush (v := (-2)) dX10_check_20 (by decide) ?_
      exact aw_iret dX10_check_22 rfl rfl h
theorem bX10_check_30 {d : Nat} {Q : Option Int32 → Mem → Prop} (M : Mem) (x1 x2 : Int32) (h : (x1 ≤ x2 → Q (some (-1)) M) ∧ (¬ x1 ≤ x2 → (x2 = (M 77 0) → Q (some x2) M) ∧ (¬ x2 = (M 77 0) → AMi d iX10_tapeNumber [.ref 77, .int x2] M (fun r1 M1 => AMi d iX10_tallOf [.ref 77, .int x2] M1 (fun r2 M2 => (r1 = r2 → AX10_check (d + 1) Q 30 [lR 77, lI x1, lI (x2 + 1)] [] M2) ∧ (¬ r1 = r2 → Q (some x2) M2)))))) : AX10_check (d + 1) Q 30 [lR 77, lI x1, lI x2] [] M := by
  refine aw_iload_n dX10_check_30 rfl rfl ?_
  refine aw_iload_n dX10_check_31 rfl rfl ?_
  refine aw_icmp_ge (tgt := 64) dX10_check_32 (by decide) (fun z => ?_) (fun z => ?_)
  · replace h := h.1 z
    refine aw_iconst (v := (-1)) dX10_check_64 (by decide) ?_
    exact aw_iret dX10_check_65 rfl rfl h
  · replace h := h.2 z
    refine aw_iload_n dX10_check_35 rfl rfl ?_
    refine aw_aload_n dX10_check_36 rfl rfl ?_
    refine aw_getf dX10_check_37 fl_X10_138 (by decide) ce_77 rfl (v := .int (M 77 0)) rfl ?_
    refine aw_icmp_eq (tgt := 56) dX10_check_40 (by decide) (fun z => ?_) (fun z => ?_)
    · replace h := h.1 z
      refine aw_iload_n dX10_check_56 rfl rfl ?_
      exact aw_iret dX10_check_57 rfl rfl h
    · replace h := h.2 z
      refine aw_aload_n dX10_check_43 rfl rfl ?_
      refine aw_iload_n dX10_check_44 rfl rfl ?_
      refine aw_callV (mi := iX10_tapeNumber) (av := [.int x2]) (st := []) dX10_check_45 ml_X10_414 kX10_tapeNumber (by decide) ce_77 clX10 rfl rfl rfl (Nat.le_of_ble_eq_true rfl) (AM.mono h (fun r9 M1 h => ?_))
      obtain ⟨r1, rfl, h⟩ := h
      refine aw_aload_n dX10_check_48 rfl rfl ?_
      refine aw_iload_n dX10_check_49 rfl rfl ?_
      refine aw_callV (mi := iX10_tallOf) (av := [.int x2]) (st := [.int r1]) dX10_check_50 ml_X10_159 kX10_tallOf (by decide) ce_77 clX10 rfl rfl rfl (Nat.le_of_ble_eq_true rfl) (AM.mono h (fun r9 M2 h => ?_))
      obtain ⟨r2, rfl, h⟩ := h
      refine aw_icmp_eq (tgt := 58) dX10_check_53 (by decide) (fun z => ?_) (fun z => ?_)
      · replace h := h.1 z
        refine aw_iinc (y := 1) (L2 := [lR 77, lI x1, lI (x2 + 1)]) dX10_check_58 rfl (by decide) (by decide) rfl ?_
        refine aw_goto (tgt := 30) dX10_check_61 (by decide) ?_
        exact h
      · replace h := h.2 z
        refine aw_iload_n dX10_check_56 rfl rfl ?_
        exact aw_iret dX10_check_57 rfl rfl h
abbrev AX10_count (d : Nat) (Q : Option Int32 → Mem → Prop) (pc : Nat) (L : List (Option Value)) (st : List Value) (M : Mem) : Prop := AW none RX10 cX10_count 2 (some .int) d Q pc L st M
theorem eX10_count {d : Nat} {Q : Option Int32 → Mem → Prop} (M : Mem) (x1 : Int32) (h : AX10_count d Q 0 [lR 77, lI x1] [] M) : AM d iX10_count [.ref 77, .int x1] M Q := AM.of2 (by decide) rfl rfl h
theorem bX10_count_0 {d : Nat} {Q : Option Int32 → Mem → Prop} (M : Mem) (x1 : Int32) (h : (Int32.toInt x1 < 0 ∨ 9 < Int32.toInt x1 → ((inV x1 20 (19 + (M 77 34))) = 0 → ((inV x1 40 (39 + (M 77 0))) = 0 → ((inV x1 60 (59 + (M 77 0))) = 0 → Q (some (-1)) M) ∧ (¬ (inV x1 60 (59 + (M 77 0))) = 0 → (vp_in (x1 - 60) 16) ∧ (Q (some (M 79 (ix (x1 - 60)))) M))) ∧ (¬ (inV x1 40 (39 + (M 77 0))) = 0 → (vp_in (x1 - 40) 16) ∧ (Q (some (M 80 (ix (x1 - 40)))) M))) ∧ (¬ (inV x1 20 (19 + (M 77 34))) = 0 → (vp_in (x1 - 20) 12) ∧ (Q (some (M 101 (ix (x1 - 20)))) M))) ∧ (x1 = 0 → Q (some (M 77 0)) M) ∧ (x1 = 1 → Q (some (M 77 34)) M) ∧ (x1 = 2 → Q (some (M 91 0)) M) ∧ (x1 = 3 → Q (some (M 91 1)) M) ∧ (x1 = 4 → Q (some (M 77 10)) M) ∧ (x1 = 5 → Q (some (M 77 2)) M) ∧ (x1 = 6 → Q (some (M 77 3)) M) ∧ (x1 = 7 → Q (some (M 77 50)) M) ∧ (x1 = 8 → Q (some (M 77 1)) M) ∧ (x1 = 9 → AMi d iX10_holding [.ref 77, .int 0] M (fun r1 M1 => Q (some r1) M1))) : AX10_count (d + 1) Q 0 [lR 77, lI x1] [] M := by
  refine aw_iload_n dX10_count_0 rfl rfl ?_
  rcases Classical.em (Int32.toInt x1 < 0 ∨ 9 < Int32.toInt x1) with z | z
  · replace h := h.1 z
    refine aw_tableOut (tgt := 111) dX10_count_1 z (by decide) ?_
    refine aw_iload_n dX10_count_111 rfl rfl ?_
    refine aw_bipush (v := 20) dX10_count_112 (by decide) ?_
    refine aw_bipush (v := 19) dX10_count_114 (by decide) ?_
    refine aw_aload_n dX10_count_116 rfl rfl ?_
    refine aw_getf dX10_count_117 fl_X10_286 (by decide) ce_77 rfl (v := .int (M 77 34)) rfl ?_
    refine aw_iadd dX10_count_120 ?_
    refine aw_callS (mi := iX10_in) (av := [.int x1, .int 20, .int (19 + (M 77 34))]) (st := []) dX10_count_121 ml_X10_152 kX10_in rfl rfl (Nat.le_of_ble_eq_true rfl) (AM.mono (p_X10_in _ _ _) (fun r9 M9 e9 => ?_))
    obtain ⟨rfl, rfl⟩ := e9
    refine aw_if_eq (tgt := 137) dX10_count_124 (by decide) (fun z => ?_) (fun z => ?_)
    · replace h := h.1 z
      refine aw_iload_n dX10_count_137 rfl rfl ?_
      refine aw_bipush (v := 40) dX10_count_138 (by decide) ?_
      refine aw_bipush (v := 39) dX10_count_140 (by decide) ?_
      refine aw_aload_n dX10_count_142 rfl rfl ?_
      refine aw_getf dX10_count_143 fl_X10_138 (by decide) ce_77 rfl (v := .int (M 77 0)) rfl ?_
      refine aw_iadd dX10_count_146 ?_
      refine aw_callS (mi := iX10_in) (av := [.int x1, .int 40, .int (39 + (M 77 0))]) (st := []) dX10_count_147 ml_X10_152 kX10_in rfl rfl (Nat.le_of_ble_eq_true rfl) (AM.mono (p_X10_in _ _ _) (fun r9 M9 e9 => ?_))
      obtain ⟨rfl, rfl⟩ := e9
      refine aw_if_eq (tgt := 163) dX10_count_150 (by decide) (fun z => ?_) (fun z => ?_)
      · replace h := h.1 z
        refine aw_iload_n dX10_count_163 rfl rfl ?_
        refine aw_bipush (v := 60) dX10_count_164 (by decide) ?_
        refine aw_bipush (v := 59) dX10_count_166 (by decide) ?_
        refine aw_aload_n dX10_count_168 rfl rfl ?_
        refine aw_getf dX10_count_169 fl_X10_138 (by decide) ce_77 rfl (v := .int (M 77 0)) rfl ?_
        refine aw_iadd dX10_count_172 ?_
        refine aw_callS (mi := iX10_in) (av := [.int x1, .int 60, .int (59 + (M 77 0))]) (st := []) dX10_count_173 ml_X10_152 kX10_in rfl rfl (Nat.le_of_ble_eq_true rfl) (AM.mono (p_X10_in _ _ _) (fun r9 M9 e9 => ?_))
        obtain ⟨rfl, rfl⟩ := e9
        refine aw_if_eq (tgt := 191) dX10_count_176 (by decide) (fun z => ?_) (fun z => ?_)
        · replace h := h.1 z
          refine aw_iconst (v := (-1)) dX10_count_191 (by decide) ?_
          exact aw_iret dX10_count_192 rfl rfl h
        · replace h := h.2 z
          refine aw_aload_n dX10_count_179 rfl rfl ?_
          refine aw_getf dX10_count_180 fl_X10_13 (by decide) ce_77 rfl (v := .ref 79) rfl ?_
          refine aw_iload_n dX10_count_183 rfl rfl ?_
          refine aw_bipush (v := 60) dX10_count_184 (by decide) ?_
          refine aw_isub dX10_count_186 ?_
          obtain ⟨h9, h⟩ := h
          refine aw_iald dX10_count_187 (by decide) ce_79 h9 ?_
          refine aw_goto (tgt := 192) dX10_count_188 (by decide) ?_
          exact aw_iret dX10_count_192 rfl rfl h
      · replace h := h.2 z
        refine aw_aload_n dX10_count_153 rfl rfl ?_
        refine aw_getf dX10_count_154 fl_X10_16 (by decide) ce_77 rfl (v := .ref 80) rfl ?_
        refine aw_iload_n dX10_count_157 rfl rfl ?_
        refine aw_bipush (v := 40) dX10_count_158 (by decide) ?_
        refine aw_isub dX10_count_160 ?_
        obtain ⟨h9, h⟩ := h
        refine aw_iald dX10_count_161 (by decide) ce_80 h9 ?_
        exact aw_iret dX10_count_162 rfl rfl h
    · replace h := h.2 z
      refine aw_aload_n dX10_count_127 rfl rfl ?_
      refine aw_getf dX10_count_128 fl_X10_80 (by decide) ce_77 rfl (v := .ref 101) rfl ?_
      refine aw_iload_n dX10_count_131 rfl rfl ?_
      refine aw_bipush (v := 20) dX10_count_132 (by decide) ?_
      refine aw_isub dX10_count_134 ?_
      obtain ⟨h9, h⟩ := h
      refine aw_iald dX10_count_135 (by decide) ce_101 h9 ?_
      exact aw_iret dX10_count_136 rfl rfl h
  replace h := h.2
  rcases Classical.em (x1 = 0) with y | y
  · replace h := h.1 y
    refine aw_tableIn (off := 55) (tgt := 56) dX10_count_1 (by rw [y]; decide) (by rw [y]; decide) (by rw [y]; rfl) (by decide) ?_
    refine aw_aload_n dX10_count_56 rfl rfl ?_
    refine aw_getf dX10_count_57 fl_X10_138 (by decide) ce_77 rfl (v := .int (M 77 0)) rfl ?_
    exact aw_iret dX10_count_60 rfl rfl h
  replace h := h.2
  rename ¬ _ = _ => y0
  rcases Classical.em (x1 = 1) with y | y
  · replace h := h.1 y
    refine aw_tableIn (off := 60) (tgt := 61) dX10_count_1 (by rw [y]; decide) (by rw [y]; decide) (by rw [y]; rfl) (by decide) ?_
    refine aw_aload_n dX10_count_61 rfl rfl ?_
    refine aw_getf dX10_count_62 fl_X10_286 (by decide) ce_77 rfl (v := .int (M 77 34)) rfl ?_
    exact aw_iret dX10_count_65 rfl rfl h
  replace h := h.2
  rename ¬ _ = _ => y1
  rcases Classical.em (x1 = 2) with y | y
  · replace h := h.1 y
    refine aw_tableIn (off := 65) (tgt := 66) dX10_count_1 (by rw [y]; decide) (by rw [y]; decide) (by rw [y]; rfl) (by decide) ?_
    refine aw_aload_n dX10_count_66 rfl rfl ?_
    refine aw_getf dX10_count_67 fl_X10_50 (by decide) ce_77 rfl (v := .ref 91) rfl ?_
    refine aw_iconst (v := 0) dX10_count_70 (by decide) ?_
    refine aw_iald dX10_count_71 (by decide) ce_91 (by unfold vp_in; decide) ?_
    exact aw_iret dX10_count_72 rfl rfl h
  replace h := h.2
  rename ¬ _ = _ => y2
  rcases Classical.em (x1 = 3) with y | y
  · replace h := h.1 y
    refine aw_tableIn (off := 72) (tgt := 73) dX10_count_1 (by rw [y]; decide) (by rw [y]; decide) (by rw [y]; rfl) (by decide) ?_
    refine aw_aload_n dX10_count_73 rfl rfl ?_
    refine aw_getf dX10_count_74 fl_X10_50 (by decide) ce_77 rfl (v := .ref 91) rfl ?_
    refine aw_iconst (v := 1) dX10_count_77 (by decide) ?_
    refine aw_iald dX10_count_78 (by decide) ce_91 (by unfold vp_in; decide) ?_
    exact aw_iret dX10_count_79 rfl rfl h
  replace h := h.2
  rename ¬ _ = _ => y3
  rcases Classical.em (x1 = 4) with y | y
  · replace h := h.1 y
    refine aw_tableIn (off := 79) (tgt := 80) dX10_count_1 (by rw [y]; decide) (by rw [y]; decide) (by rw [y]; rfl) (by decide) ?_
    refine aw_aload_n dX10_count_80 rfl rfl ?_
    refine aw_getf dX10_count_81 fl_X10_167 (by decide) ce_77 rfl (v := .int (M 77 10)) rfl ?_
    exact aw_iret dX10_count_84 rfl rfl h
  replace h := h.2
  rename ¬ _ = _ => y4
  rcases Classical.em (x1 = 5) with y | y
  · replace h := h.1 y
    refine aw_tableIn (off := 84) (tgt := 85) dX10_count_1 (by rw [y]; decide) (by rw [y]; decide) (by rw [y]; rfl) (by decide) ?_
    refine aw_aload_n dX10_count_85 rfl rfl ?_
    refine aw_getf dX10_count_86 fl_X10_270 (by decide) ce_77 rfl (v := .int (M 77 2)) rfl ?_
    exact aw_iret dX10_count_89 rfl rfl h
  replace h := h.2
  rename ¬ _ = _ => y5
  rcases Classical.em (x1 = 6) with y | y
  · replace h := h.1 y
    refine aw_tableIn (off := 89) (tgt := 90) dX10_count_1 (by rw [y]; decide) (by rw [y]; decide) (by rw [y]; rfl) (by decide) ?_
    refine aw_aload_n dX10_count_90 rfl rfl ?_
    refine aw_getf dX10_count_91 fl_X10_134 (by decide) ce_77 rfl (v := .int (M 77 3)) rfl ?_
    exact aw_iret dX10_count_94 rfl rfl h
  replace h := h.2
  rename ¬ _ = _ => y6
  rcases Classical.em (x1 = 7) with y | y
  · replace h := h.1 y
    refine aw_tableIn (off := 94) (tgt := 95) dX10_count_1 (by rw [y]; decide) (by rw [y]; decide) (by rw [y]; rfl) (by decide) ?_
    refine aw_aload_n dX10_count_95 rfl rfl ?_
    refine aw_getf dX10_count_96 fl_X10_388 (by decide) ce_77 rfl (v := .int (M 77 50)) rfl ?_
    exact aw_iret dX10_count_99 rfl rfl h
  replace h := h.2
  rename ¬ _ = _ => y7
  rcases Classical.em (x1 = 8) with y | y
  · replace h := h.1 y
    refine aw_tableIn (off := 99) (tgt := 100) dX10_count_1 (by rw [y]; decide) (by rw [y]; decide) (by rw [y]; rfl) (by decide) ?_
    refine aw_aload_n dX10_count_100 rfl rfl ?_
    refine aw_getf dX10_count_101 fl_X10_145 (by decide) ce_77 rfl (v := .int (M 77 1)) rfl ?_
    exact aw_iret dX10_count_104 rfl rfl h
  replace h := h.2
  rename ¬ _ = _ => y8
  have y : x1 = 9 := Int32.toInt_inj.mp (by have e := z; have q0 := lv_neT (a := 0) y0 (by decide); have q1 := lv_neT (a := 1) y1 (by decide); have q2 := lv_neT (a := 2) y2 (by decide); have q3 := lv_neT (a := 3) y3 (by decide); have q4 := lv_neT (a := 4) y4 (by decide); have q5 := lv_neT (a := 5) y5 (by decide); have q6 := lv_neT (a := 6) y6 (by decide); have q7 := lv_neT (a := 7) y7 (by decide); have q8 := lv_neT (a := 8) y8 (by decide); show _ = (9 : Int); omega)
  replace h := h y
  refine aw_tableIn (off := 104) (tgt := 105) dX10_count_1 (by rw [y]; decide) (by rw [y]; decide) (by rw [y]; rfl) (by decide) ?_
  refine aw_aload_n dX10_count_105 rfl rfl ?_
  refine aw_iconst (v := 0) dX10_count_106 (by decide) ?_
  refine aw_callV (mi := iX10_holding) (av := [.int 0]) (st := []) dX10_count_107 ml_X10_345 kX10_holding (by decide) ce_77 clX10 rfl rfl rfl (Nat.le_of_ble_eq_true rfl) (AM.mono h (fun r9 M1 h => ?_))
  obtain ⟨r1, rfl, h⟩ := h
  exact aw_iret dX10_count_110 rfl rfl h
