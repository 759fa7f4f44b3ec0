abbrev AX8_addPerson (d : Nat) (Q : Option Int32 → Mem → Prop) (pc : Nat) (L : List (Option Value)) (st : List Value) (M : Mem) : Prop := AW none RX8 cX8_addPerson 6 (some .int) d Q pc L st M
theorem eX8_addPerson_1 {d : Nat} {Q : Option Int32 → Mem → Prop} (M : Mem) (x1 x2 x3 x4 : Int32) (h : AX8_addPerson d Q 0 [lR 1, lI x1, lI x2, lI x3, lI x4, none] [] M) : AM d iX8_addPerson [.ref 1, .int x1, .int x2, .int x3, .int x4] M Q := AM.of2 (by decide) rfl rfl h
theorem bX8_addPerson_1_0 {d : Nat} {Q : Option Int32 → Mem → Prop} (M : Mem) (x1 x2 x3 x4 : Int32) (h : (vp_in (M 1 7) 16) ∧ ((vp_in (M 1 7) 16) ∧ ((vp_in (M 1 7) 16) ∧ ((vp_in (M 1 7) 16) ∧ ((vp_in (M 1 7) 16) ∧ (Q (some (M 1 7)) (wr (wr (wr (wr (wr (wr (wr M 2 (ix (M 1 7)) x1) 3 (ix (M 1 7)) x2) 4 (ix (M 1 7)) x3) 5 (ix (M 1 7)) 0) 6 (ix (M 1 7)) x4) 1 8 ((M 1 8) ||| ((1 : Int32) <<< ((M 1 7) &&& 31)))) 1 7 ((M 1 7) + 1)))))))) : AX8_addPerson d Q 0 [lR 1, lI x1, lI x2, lI x3, lI x4, none] [] M := by
  refine aw_aload_n dX8_addPerson_0 rfl rfl ?_
  refine aw_getf dX8_addPerson_1 fl_X8_53 (by decide) ce_1 rfl (v := .int (M 1 7)) rfl ?_
  refine aw_istore (L2 := [lR 1, lI x1, lI x2, lI x3, lI x4, lI (M 1 7)]) dX8_addPerson_4 (by decide) rfl ?_
  refine aw_aload_n dX8_addPerson_6 rfl rfl ?_
  refine aw_getf dX8_addPerson_7 fl_X8_9 (by decide) ce_1 rfl (v := .ref 2) rfl ?_
  refine aw_iload dX8_addPerson_10 rfl ?_
  refine aw_iload_n dX8_addPerson_12 rfl rfl ?_
  obtain ⟨h9, h⟩ := h
  refine aw_iast dX8_addPerson_13 (by decide) ce_2 h9 ?_
  refine aw_aload_n dX8_addPerson_14 rfl rfl ?_
  refine aw_getf dX8_addPerson_15 fl_X8_15 (by decide) ce_1 rfl (v := .ref 3) rfl ?_
  refine aw_iload dX8_addPerson_18 rfl ?_
  refine aw_iload_n dX8_addPerson_20 rfl rfl ?_
  obtain ⟨h9, h⟩ := h
  refine aw_iast dX8_addPerson_21 (by decide) ce_3 h9 ?_
  refine aw_aload_n dX8_addPerson_22 rfl rfl ?_
  refine aw_getf dX8_addPerson_23 fl_X8_18 (by decide) ce_1 rfl (v := .ref 4) rfl ?_
  refine aw_iload dX8_addPerson_26 rfl ?_
  refine aw_iload_n dX8_addPerson_28 rfl rfl ?_
  obtain ⟨h9, h⟩ := h
  refine aw_iast dX8_addPerson_29 (by decide) ce_4 h9 ?_
  refine aw_aload_n dX8_addPerson_30 rfl rfl ?_
  refine aw_getf dX8_addPerson_31 fl_X8_21 (by decide) ce_1 rfl (v := .ref 5) rfl ?_
  refine aw_iload dX8_addPerson_34 rfl ?_
  refine aw_iconst (v := 0) dX8_addPerson_36 (by decide) ?_
  obtain ⟨h9, h⟩ := h
  refine aw_iast dX8_addPerson_37 (by decide) ce_5 h9 ?_
  refine aw_aload_n dX8_addPerson_38 rfl rfl ?_
  refine aw_getf dX8_addPerson_39 fl_X8_24 (by decide) ce_1 rfl (v := .ref 6) rfl ?_
  refine aw_iload dX8_addPerson_42 rfl ?_
  refine aw_iload dX8_addPerson_44 rfl ?_
  obtain ⟨h9, h⟩ := h
  refine aw_iast dX8_addPerson_46 (by decide) ce_6 h9 ?_
  refine aw_aload_n dX8_addPerson_47 rfl rfl ?_
  refine aw_dup dX8_addPerson_48 rfl ?_
  refine aw_getf dX8_addPerson_49 fl_X8_56 (by decide) ce_1 rfl (v := .int (M 1 8)) rfl ?_
  refine aw_iconst (v := 1) dX8_addPerson_52 (by decide) ?_
  refine aw_iload dX8_addPerson_53 rfl ?_
  refine aw_ishl dX8_addPerson_55 ?_
  refine aw_ior dX8_addPerson_56 ?_
  refine aw_putf dX8_addPerson_57 fp_X8_56 (by decide) ce_1 rfl rfl rfl ?_
  refine aw_aload_n dX8_addPerson_60 rfl rfl ?_
  refine aw_dup dX8_addPerson_61 rfl ?_
  refine aw_getf dX8_addPerson_62 fl_X8_53 (by decide) ce_1 rfl (v := .int (M 1 7)) rfl ?_
  refine aw_iconst (v := 1) dX8_addPerson_65 (by decide) ?_
  refine aw_iadd dX8_addPerson_66 ?_
  refine aw_putf dX8_addPerson_67 fp_X8_53 (by decide) ce_1 rfl rfl rfl ?_
  refine aw_iload dX8_addPerson_70 rfl ?_
  exact aw_iret dX8_addPerson_72 rfl rfl h
abbrev AX8_addOath (d : Nat) (Q : Option Int32 → Mem → Prop) (pc : Nat) (L : List (Option Value)) (st : List Value) (M : Mem) : Prop := AW none RX8 cX8_addOath 3 (some .int) d Q pc L st M
theorem eX8_addOath_1 {d : Nat} {Q : Option Int32 → Mem → Prop} (M : Mem) (x1 : Int32) (h : AX8_addOath d Q 0 [lR 1, lI x1, none] [] M) : AM d iX8_addOath [.ref 1, .int x1] M Q := AM.of2 (by decide) rfl rfl h
theorem bX8_addOath_1_0 {d : Nat} {Q : Option Int32 → Mem → Prop} (M : Mem) (x1 : Int32) (h : (vp_in (M 1 9) 12) ∧ ((vp_in (M 1 9) 12) ∧ (Q (some (M 1 9)) (wr (wr (wr M 7 (ix (M 1 9)) x1) 8 (ix (M 1 9)) ((1 : Int32) <<< (x1 &&& 31))) 1 9 ((M 1 9) + 1))))) : AX8_addOath d Q 0 [lR 1, lI x1, none] [] M := by
  refine aw_aload_n dX8_addOath_0 rfl rfl ?_
  refine aw_getf dX8_addOath_1 fl_X8_59 (by decide) ce_1 rfl (v := .int (M 1 9)) rfl ?_
  refine aw_istore_n (L2 := [lR 1, lI x1, lI (M 1 9)]) dX8_addOath_4 rfl (by decide) rfl ?_
  refine aw_aload_n dX8_addOath_5 rfl rfl ?_
  refine aw_getf dX8_addOath_6 fl_X8_27 (by decide) ce_1 rfl (v := .ref 7) rfl ?_
  refine aw_iload_n dX8_addOath_9 rfl rfl ?_
  refine aw_iload_n dX8_addOath_10 rfl rfl ?_
  obtain ⟨h9, h⟩ := h
  refine aw_iast dX8_addOath_11 (by decide) ce_7 h9 ?_
  refine aw_aload_n dX8_addOath_12 rfl rfl ?_
  refine aw_getf dX8_addOath_13 fl_X8_30 (by decide) ce_1 rfl (v := .ref 8) rfl ?_
  refine aw_iload_n dX8_addOath_16 rfl rfl ?_
  refine aw_iconst (v := 1) dX8_addOath_17 (by decide) ?_
  refine aw_iload_n dX8_addOath_18 rfl rfl ?_
  refine aw_ishl dX8_addOath_19 ?_
  obtain ⟨h9, h⟩ := h
  refine aw_iast dX8_addOath_20 (by decide) ce_8 h9 ?_
  refine aw_aload_n dX8_addOath_21 rfl rfl ?_
  refine aw_dup dX8_addOath_22 rfl ?_
  refine aw_getf dX8_addOath_23 fl_X8_59 (by decide) ce_1 rfl (v := .int (M 1 9)) rfl ?_
  refine aw_iconst (v := 1) dX8_addOath_26 (by decide) ?_
  refine aw_iadd dX8_addOath_27 ?_
  refine aw_putf dX8_addOath_28 fp_X8_59 (by decide) ce_1 rfl rfl rfl ?_
  refine aw_iload_n dX8_addOath_31 rfl rfl ?_
  exact aw_iret dX8_addOath_32 rfl rfl h
abbrev AX8_copyFrom (d : Nat) (Q : Option Int32 → Mem → Prop) (pc : Nat) (L : List (Option Value)) (st : List Value) (M : Mem) : Prop := AW none RX8 cX8_copyFrom 2 none d Q pc L st M
theorem eX8_copyFrom_12_1 {d : Nat} {Q : Option Int32 → Mem → Prop} (M : Mem) (h : AX8_copyFrom d Q 0 [lR 12, lR 1] [] M) : AM d iX8_copyFrom [.ref 12, .ref 1] M Q := AM.of2 (by decide) rfl rfl h
theorem bX8_copyFrom_12_1_0 {d : Nat} {Q : Option Int32 → Mem → Prop} (M : Mem) (h : Q none (wr (wr (wr (wr (wr (cp (cp (cp (cp (cp (cp (cp M 13 2 16) 14 3 16) 15 4 16) 16 5 16) 17 6 16) 18 7 12) 19 8 12) 12 7 (M 1 7)) 12 8 (M 1 8)) 12 9 (M 1 9)) 12 10 (M 1 10)) 12 11 (M 1 11))) : AX8_copyFrom (d + 1) Q 0 [lR 12, lR 1] [] M := by
  refine aw_aload_n dX8_copyFrom_0 rfl rfl ?_
  refine aw_getf dX8_copyFrom_1 fl_X8_9 (by decide) ce_1 rfl (v := .ref 2) rfl ?_
  refine aw_iconst (v := 0) dX8_copyFrom_4 (by decide) ?_
  refine aw_aload_n dX8_copyFrom_5 rfl rfl ?_
  refine aw_getf dX8_copyFrom_6 fl_X8_9 (by decide) ce_12 rfl (v := .ref 13) rfl ?_
  refine aw_iconst (v := 0) dX8_copyFrom_9 (by decide) ?_
  refine aw_bipush (v := 16) dX8_copyFrom_10 (by decide) ?_
  refine aw_copy dX8_copyFrom_12 ml_X8_47 mc_n mc_s mc_i (by decide) ce_2 (by decide) ce_13 (by decide) (by decide) (by decide) (by decide) (by decide) (Nat.le_of_ble_eq_true rfl) ?_
  refine aw_aload_n dX8_copyFrom_15 rfl rfl ?_
  refine aw_getf dX8_copyFrom_16 fl_X8_15 (by decide) ce_1 rfl (v := .ref 3) rfl ?_
  refine aw_iconst (v := 0) dX8_copyFrom_19 (by decide) ?_
  refine aw_aload_n dX8_copyFrom_20 rfl rfl ?_
  refine aw_getf dX8_copyFrom_21 fl_X8_15 (by decide) ce_12 rfl (v := .ref 14) rfl ?_
  refine aw_iconst (v := 0) dX8_copyFrom_24 (by decide) ?_
  refine aw_bipush (v := 16) dX8_copyFrom_25 (by decide) ?_
  refine aw_copy dX8_copyFrom_27 ml_X8_47 mc_n mc_s mc_i (by decide) ce_3 (by decide) ce_14 (by decide) (by decide) (by decide) (by decide) (by decide) (Nat.le_of_ble_eq_true rfl) ?_
  refine aw_aload_n dX8_copyFrom_30 rfl rfl ?_
  refine aw_getf dX8_copyFrom_31 fl_X8_18 (by decide) ce_1 rfl (v := .ref 4) rfl ?_
  refine aw_iconst (v := 0) dX8_copyFrom_34 (by decide) ?_
  refine aw_aload_n dX8_copyFrom_35 rfl rfl ?_
  refine aw_getf dX8_copyFrom_36 fl_X8_18 (by decide) ce_12 rfl (v := .ref 15) rfl ?_
  refine aw_iconst (v := 0) dX8_copyFrom_39 (by decide) ?_
  refine aw_bipush (v := 16) dX8_copyFrom_40 (by decide) ?_
  refine aw_copy dX8_copyFrom_42 ml_X8_47 mc_n mc_s mc_i (by decide) ce_4 (by decide) ce_15 (by decide) (by decide) (by decide) (by decide) (by decide) (Nat.le_of_ble_eq_true rfl) ?_
  refine aw_aload_n dX8_copyFrom_45 rfl rfl ?_
  refine aw_getf dX8_copyFrom_46 fl_X8_21 (by decide) ce_1 rfl (v := .ref 5) rfl ?_
  refine aw_iconst (v := 0) dX8_copyFrom_49 (by decide) ?_
  refine aw_aload_n dX8_copyFrom_50 rfl rfl ?_
  refine aw_getf dX8_copyFrom_51 fl_X8_21 (by decide) ce_12 rfl (v := .ref 16) rfl ?_
  refine aw_iconst (v := 0) dX8_copyFrom_54 (by decide) ?_
  refine aw_bipush (v := 16) dX8_copyFrom_55 (by decide) ?_
  refine aw_copy dX8_copyFrom_57 ml_X8_47 mc_n mc_s mc_i (by decide) ce_5 (by decide) ce_16 (by decide) (by decide) (by decide) (by decide) (by decide) (Nat.le_of_ble_eq_true rfl) ?_
  refine aw_aload_n dX8_copyFrom_60 rfl rfl ?_
  refine aw_getf dX8_copyFrom_61 fl_X8_24 (by decide) ce_1 rfl (v := .ref 6) rfl ?_
  refine aw_iconst (v := 0) dX8_copyFrom_64 (by decide) ?_
  refine aw_aload_n dX8_copyFrom_65 rfl rfl ?_
  refine aw_getf dX8_copyFrom_66 fl_X8_24 (by decide) ce_12 rfl (v := .ref 17) rfl ?_
  refine aw_iconst (v := 0) dX8_copyFrom_69 (by decide) ?_
  refine aw_bipush (v := 16) dX8_copyFrom_70 (by decide) ?_
  refine aw_copy dX8_copyFrom_72 ml_X8_47 mc_n mc_s mc_i (by decide) ce_6 (by decide) ce_17 (by decide) (by decide) (by decide) (by decide) (by decide) (Nat.le_of_ble_eq_true rfl) ?_
  refine aw_aload_n dX8_copyFrom_75 rfl rfl ?_
  refine aw_getf dX8_copyFrom_76 fl_X8_27 (by decide) ce_1 rfl (v := .ref 7) rfl ?_
  refine aw_iconst (v := 0) dX8_copyFrom_79 (by decide) ?_
  refine aw_aload_n dX8_copyFrom_80 rfl rfl ?_
  refine aw_getf dX8_copyFrom_81 fl_X8_27 (by decide) ce_12 rfl (v := .ref 18) rfl ?_
  refine aw_iconst (v := 0) dX8_copyFrom_84 (by decide) ?_
  refine aw_bipush (v := 12) dX8_copyFrom_85 (by decide) ?_
  refine aw_copy dX8_copyFrom_87 ml_X8_47 mc_n mc_s mc_i (by decide) ce_7 (by decide) ce_18 (by decide) (by decide) (by decide) (by decide) (by decide) (Nat.le_of_ble_eq_true rfl) ?_
  refine aw_aload_n dX8_copyFrom_90 rfl rfl ?_
  refine aw_getf dX8_copyFrom_91 fl_X8_30 (by decide) ce_1 rfl (v := .ref 8) rfl ?_
  refine aw_iconst (v := 0) dX8_copyFrom_94 (by decide) ?_
  refine aw_aload_n dX8_copyFrom_95 rfl rfl ?_
  refine aw_getf dX8_copyFrom_96 fl_X8_30 (by decide) ce_12 rfl (v := .ref 19) rfl ?_
  refine aw_iconst (v := 0) dX8_copyFrom_99 (by decide) ?_
  refine aw_bipush (v := 12) dX8_copyFrom_100 (by decide) ?_
  refine aw_copy dX8_copyFrom_102 ml_X8_47 mc_n mc_s mc_i (by decide) ce_8 (by decide) ce_19 (by decide) (by decide) (by decide) (by decide) (by decide) (Nat.le_of_ble_eq_true rfl) ?_
  refine aw_aload_n dX8_copyFrom_105 rfl rfl ?_
  refine aw_aload_n dX8_copyFrom_106 rfl rfl ?_
  refine aw_getf dX8_copyFrom_107 fl_X8_53 (by decide) ce_1 rfl (v := .int (M 1 7)) rfl ?_
  refine aw_putf dX8_copyFrom_110 fp_X8_53 (by decide) ce_12 rfl rfl rfl ?_
  refine aw_aload_n dX8_copyFrom_113 rfl rfl ?_
  refine aw_aload_n dX8_copyFrom_114 rfl rfl ?_
  refine aw_getf dX8_copyFrom_115 fl_X8_56 (by decide) ce_1 rfl (v := .int (M 1 8)) rfl ?_
  refine aw_putf dX8_copyFrom_118 fp_X8_56 (by decide) ce_12 rfl rfl rfl ?_
  refine aw_aload_n dX8_copyFrom_121 rfl rfl ?_
  refine aw_aload_n dX8_copyFrom_122 rfl rfl ?_
  refine aw_getf dX8_copyFrom_123 fl_X8_59 (by decide) ce_1 rfl (v := .int (M 1 9)) rfl ?_
  refine aw_putf dX8_copyFrom_126 fp_X8_59 (by decide) ce_12 rfl rfl rfl ?_
  refine aw_aload_n dX8_copyFrom_129 rfl rfl ?_
  refine aw_aload_n dX8_copyFrom_130 rfl rfl ?_
  refine aw_getf dX8_copyFrom_131 fl_X8_62 (by decide) ce_1 rfl (v := .int (M 1 10)) rfl ?_
  refine aw_putf dX8_copyFrom_134 fp_X8_62 (by decide) ce_12 rfl rfl rfl ?_
  refine aw_aload_n dX8_copyFrom_137 rfl rfl ?_
  refine aw_aload_n dX8_copyFrom_138 rfl rfl ?_
  refine aw_getf dX8_copyFrom_139 fl_X8_33 (by decide) ce_1 rfl (v := .int (M 1 11)) rfl ?_
  refine aw_putf dX8_copyFrom_142 fp_X8_33 (by decide) ce_12 rfl rfl rfl ?_
  exact aw_vret dX8_copyFrom_145 rfl h
theorem eX8_copyFrom_1_12 {d : Nat} {Q : Option Int32 → Mem → Prop} (M : Mem) (h : AX8_copyFrom d Q 0 [lR 1, lR 12] [] M) : AM d iX8_copyFrom [.ref 1, .ref 12] M Q := AM.of2 (by decide) rfl rfl h
theorem bX8_copyFrom_1_12_0 {d : Nat} {Q : Option Int32 → Mem → Prop} (M : Mem) (h : Q none (wr (wr (wr (wr (wr (cp (cp (cp (cp (cp (cp (cp M 2 13 16) 3 14 16) 4 15 16) 5 16 16) 6 17 16) 7 18 12) 8 19 12) 1 7 (M 12 7)) 1 8 (M 12 8)) 1 9 (M 12 9)) 1 10 (M 12 10)) 1 11 (M 12 11))) : AX8_copyFrom (d + 1) Q 0 [lR 1, lR 12] [] M := by
  refine aw_aload_n dX8_copyFrom_0 rfl rfl ?_
  refine aw_getf dX8_copyFrom_1 fl_X8_9 (by decide) ce_12 rfl (v := .ref 13) rfl ?_
  refine aw_iconst (v := 0) dX8_copyFrom_4 (by decide) ?_
  refine aw_aload_n dX8_copyFrom_5 rfl rfl ?_
  refine aw_getf dX8_copyFrom_6 fl_X8_9 (by decide) ce_1 rfl (v := .ref 2) rfl ?_
  refine aw_iconst (v := 0) dX8_copyFrom_9 (by decide) ?_
  refine aw_bipush (v := 16) dX8_copyFrom_10 (by decide) ?_
  refine aw_copy dX8_copyFrom_12 ml_X8_47 mc_n mc_s mc_i (by decide) ce_13 (by decide) ce_2 (by decide) (by decide) (by decide) (by decide) (by decide) (Nat.le_of_ble_eq_true rfl) ?_
  refine aw_aload_n dX8_copyFrom_15 rfl rfl ?_
  refine aw_getf dX8_copyFrom_16 fl_X8_15 (by decide) ce_12 rfl (v := .ref 14) rfl ?_
  refine aw_iconst (v := 0) dX8_copyFrom_19 (by decide) ?_
  refine aw_aload_n dX8_copyFrom_20 rfl rfl ?_
  refine aw_getf dX8_copyFrom_21 fl_X8_15 (by decide) ce_1 rfl (v := .ref 3) rfl ?_
  refine aw_iconst (v := 0) dX8_copyFrom_24 (by decide) ?_
  refine aw_bipush (v := 16) dX8_copyFrom_25 (by decide) ?_
  refine aw_copy dX8_copyFrom_27 ml_X8_47 mc_n mc_s mc_i (by decide) ce_14 (by decide) ce_3 (by decide) (by decide) (by decide) (by decide) (by decide) (Nat.le_of_ble_eq_true rfl) ?_
  refine aw_aload_n dX8_copyFrom_30 rfl rfl ?_
  refine aw_getf dX8_copyFrom_31 fl_X8_18 (by decide) ce_12 rfl (v := .ref 15) rfl ?_
  refine aw_iconst (v := 0) dX8_copyFrom_34 (by decide) ?_
  refine aw_aload_n dX8_copyFrom_35 rfl rfl ?_
  refine aw_getf dX8_copyFrom_36 fl_X8_18 (by decide) ce_1 rfl (v := .ref 4) rfl ?_
  refine aw_iconst (v := 0) dX8_copyFrom_39 (by decide) ?_
  refine aw_bipush (v := 16) dX8_copyFrom_40 (by decide) ?_
  refine aw_copy dX8_copyFrom_42 ml_X8_47 mc_n mc_s mc_i (by decide) ce_15 (by decide) ce_4 (by decide) (by decide) (by decide) (by decide) (by decide) (Nat.le_of_ble_eq_true rfl) ?_
  refine aw_aload_n dX8_copyFrom_45 rfl rfl ?_
  refine aw_getf dX8_copyFrom_46 fl_X8_21 (by decide) ce_12 rfl (v := .ref 16) rfl ?_
  refine aw_iconst (v := 0) dX8_copyFrom_49 (by decide) ?_
  refine aw_aload_n dX8_copyFrom_50 rfl rfl ?_
  refine aw_getf dX8_copyFrom_51 fl_X8_21 (by decide) ce_1 rfl (v := .ref 5) rfl ?_
  refine aw_iconst (v := 0) dX8_copyFrom_54 (by decide) ?_
  refine aw_bipush (v := 16) dX8_copyFrom_55 (by decide) ?_
  refine aw_copy dX8_copyFrom_57 ml_X8_47 mc_n mc_s mc_i (by decide) ce_16 (by decide) ce_5 (by decide) (by decide) (by decide) (by decide) (by decide) (Nat.le_of_ble_eq_true rfl) ?_
  refine aw_aload_n dX8_copyFrom_60 rfl rfl ?_
  refine aw_getf dX8_copyFrom_61 fl_X8_24 (by decide) ce_12 rfl (v := .ref 17) rfl ?_
  refine aw_iconst (v := 0) dX8_copyFrom_64 (by decide) ?_
  refine aw_aload_n dX8_copyFrom_65 rfl rfl ?_
  refine aw_getf dX8_copyFrom_66 fl_X8_24 (by decide) ce_1 rfl (v := .ref 6) rfl ?_
  refine aw_iconst (v := 0) dX8_copyFrom_69 (by decide) ?_
  refine aw_bipush (v := 16) dX8_copyFrom_70 (by decide) ?_
  refine aw_copy dX8_copyFrom_72 ml_X8_47 mc_n mc_s mc_i (by decide) ce_17 (by decide) ce_6 (by decide) (by decide) (by decide) (by decide) (by decide) (Nat.le_of_ble_eq_true rfl) ?_
  refine aw_aload_n dX8_copyFrom_75 rfl rfl ?_
  refine aw_getf dX8_copyFrom_76 fl_X8_27 (by decide) ce_12 rfl (v := .ref 18) rfl ?_
  refine aw_iconst (v := 0) dX8_copyFrom_79 (by decide) ?_
  refine aw_aload_n dX8_copyFrom_80 rfl rfl ?_
  refine aw_getf dX8_copyFrom_81 fl_X8_27 (by decide) ce_1 rfl (v := .ref 7) rfl ?_
  refine aw_iconst (v := 0) dX8_copyFrom_84 (by decide) ?_
  refine aw_bipush (v := 12) dX8_copyFrom_85 (by decide) ?_
  refine aw_copy dX8_copyFrom_87 ml_X8_47 mc_n mc_s mc_i (by decide) ce_18 (by decide) ce_7 (by decide) (by decide) (by decide) (by decide) (by decide) (Nat.le_of_ble_eq_true rfl) ?_
  refine aw_aload_n dX8_copyFrom_90 rfl rfl ?_
  refine aw_getf dX8_copyFrom_91 fl_X8_30 (by decide) ce_12 rfl (v := .ref 19) rfl ?_
  refine aw_iconst (v := 0) dX8_copyFrom_94 (by decide) ?_
  refine aw_aload_n dX8_copyFrom_95 rfl rfl ?_
  refine aw_getf dX8_copyFrom_96 fl_X8_30 (by decide) ce_1 rfl (v := .ref 8) rfl ?_
  refine aw_iconst (v := 0) dX8_copyFrom_99 (by decide) ?_
  refine aw_bipush (v := 12) dX8_copyFrom_100 (by decide) ?_
  refine aw_copy dX8_copyFrom_102 ml_X8_47 mc_n mc_s mc_i (by decide) ce_19 (by decide) ce_8 (by decide) (by decide) (by decide) (by decide) (by decide) (Nat.le_of_ble_eq_true rfl) ?_
  refine aw_aload_n dX8_copyFrom_105 rfl rfl ?_
  refine aw_aload_n dX8_copyFrom_106 rfl rfl ?_
  refine aw_getf dX8_copyFrom_107 fl_X8_53 (by decide) ce_12 rfl (v := .int (M 12 7)) rfl ?_
  refine aw_putf dX8_copyFrom_110 fp_X8_53 (by decide) ce_1 rfl rfl rfl ?_
  refine aw_aload_n dX8_copyFrom_113 rfl rfl ?_
  refine aw_aload_n dX8_copyFrom_114 rfl rfl ?_
  refine aw_getf dX8_copyFrom_115 fl_X8_56 (by decide) ce_12 rfl (v := .int (M 12 8)) rfl ?_
  refine aw_putf dX8_copyFrom_118 fp_X8_56 (by decide) ce_1 rfl rfl rfl ?_
  refine aw_aload_n dX8_copyFrom_121 rfl rfl ?_
  refine aw_aload_n dX8_copyFrom_122 rfl rfl ?_
  refine aw_getf dX8_copyFrom_123 fl_X8_59 (by decide) ce_12 rfl (v := .int (M 12 9)) rfl ?_
  refine aw_putf dX8_copyFrom_126 fp_X8_59 (by decide) ce_1 rfl rfl rfl ?_
  refine aw_aload_n dX8_copyFrom_129 rfl rfl ?_
  refine aw_aload_n dX8_copyFrom_130 rfl rfl ?_
  refine aw_getf dX8_copyFrom_131 fl_X8_62 (by decide) ce_12 rfl (v := .int (M 12 10)) rfl ?_
  refine aw_putf dX8_copyFrom_134 fp_X8_62 (by decide) ce_1 rfl rfl rfl ?_
  refine aw_aload_n dX8_copyFrom_137 rfl rfl ?_
  refine aw_aload_n dX8_copyFrom_138 rfl rfl ?_
  refine aw_getf dX8_copyFrom_139 fl_X8_33 (by decide) ce_12 rfl (v := .int (M 12 11)) rfl ?_
  refine aw_putf dX8_copyFrom_142 fp_X8_33 (by decide) ce_1 rfl rfl rfl ?_
  exact aw_vret dX8_copyFrom_145 rfl h
theorem eX8_copyFrom_23_1 {d : Nat} {Q : Option Int32 → Mem → Prop} (M : Mem) (h : AX8_copyFrom d Q 0 [lR 23, lR 1] [] M) : AM d iX8_copyFrom [.ref 23, .ref 1] M Q := AM.of2 (by decide) rfl rfl h
theorem bX8_copyFrom_23_1_0 {d : Nat} {Q : Option Int32 → Mem → Prop} (M : Mem) (h : Q none (wr (wr (wr (wr (wr (cp (cp (cp (cp (cp (cp (cp M 24 2 16) 25 3 16) 26 4 16) 27 5 16) 28 6 16) 29 7 12) 30 8 12) 23 7 (M 1 7)) 23 8 (M 1 8)) 23 9 (M 1 9)) 23 10 (M 1 10)) 23 11 (M 1 11))) : AX8_copyFrom (d + 1) Q 0 [lR 23, lR 1] [] M := by
  refine aw_aload_n dX8_copyFrom_0 rfl rfl ?_
  refine aw_getf dX8_copyFrom_1 fl_X8_9 (by decide) ce_1 rfl (v := .ref 2) rfl ?_
  refine aw_iconst (v := 0) dX8_copyFrom_4 (by decide) ?_
  refine aw_aload_n dX8_copyFrom_5 rfl rfl ?_
  refine aw_getf dX8_copyFrom_6 fl_X8_9 (by decide) ce_23 rfl (v := .ref 24) rfl ?_
  refine aw_iconst (v := 0) dX8_copyFrom_9 (by decide) ?_
  refine aw_bipush (v := 16) dX8_copyFrom_10 (by decide) ?_
  refine aw_copy dX8_copyFrom_12 ml_X8_47 mc_n mc_s mc_i (by decide) ce_2 (by decide) ce_24 (by decide) (by decide) (by decide) (by decide) (by decide) (Nat.le_of_ble_eq_true rfl) ?_
  refine aw_aload_n dX8_copyFrom_15 rfl rfl ?_
  refine aw_getf dX8_copyFrom_16 fl_X8_15 (by decide) ce_1 rfl (v := .ref 3) rfl ?_
  refine aw_iconst (v := 0) dX8_copyFrom_19 (by decide) ?_
  refine aw_aload_n dX8_copyFrom_20 rfl rfl ?_
  refine aw_getf dX8_copyFrom_21 fl_X8_15 (by decide) ce_23 rfl (v := .ref 25) rfl ?_
  refine aw_iconst (v := 0) dX8_copyFrom_24 (by decide) ?_
  refine aw_bipush (v := 16) dX8_copyFrom_25 (by decide) ?_
  refine aw_copy dX8_copyFrom_27 ml_X8_47 mc_n mc_s mc_i (by decide) ce_3 (by decide) ce_25 (by decide) (by decide) (by decide) (by decide) (by decide) (Nat.le_of_ble_eq_true rfl) ?_
  refine aw_aload_n dX8_copyFrom_30 rfl rfl ?_
  refine aw_getf dX8_copyFrom_31 fl_X8_18 (by decide) ce_1 rfl (v := .ref 4) rfl ?_
  refine aw_iconst (v := 0) dX8_copyFrom_34 (by decide) ?_
  refine aw_aload_n dX8_copyFrom_35 rfl rfl ?_
  refine aw_getf dX8_copyFrom_36 fl_X8_18 (by decide) ce_23 rfl (v := .ref 26) rfl ?_
  refine aw_iconst (v := 0) dX8_copyFrom_39 (by decide) ?_
  refine aw_bipush (v := 16) dX8_copyFrom_40 (by decide) ?_
  refine aw_copy dX8_copyFrom_42 ml_X8_47 mc_n mc_s mc_i (by decide) ce_4 (by decide) ce_26 (by decide) (by decide) (by decide) (by decide) (by decide) (Nat.le_of_ble_eq_true rfl) ?_
  refine aw_aload_n dX8_copyFrom_45 rfl rfl ?_
  refine aw_getf dX8_copyFrom_46 fl_X8_21 (by decide) ce_1 rfl (v := .ref 5) rfl ?_
  refine aw_iconst (v := 0) dX8_copyFrom_49 (by decide) ?_
  refine aw_aload_n dX8_copyFrom_50 rfl rfl ?_
  refine aw_getf dX8_copyFrom_51 fl_X8_21 (by decide) ce_23 rfl (v := .ref 27) rfl ?_
  refine aw_iconst (v := 0) dX8_copyFrom_54 (by decide) ?_
  refine aw_bipush (v := 16) dX8_copyFrom_55 (by decide) ?_
  refine aw_copy dX8_copyFrom_57 ml_X8_47 mc_n mc_s mc_i (by decide) ce_5 (by decide) ce_27 (by decide) (by decide) (by decide) (by decide) (by decide) (Nat.le_of_ble_eq_true rfl) ?_
  refine aw_aload_n dX8_copyFrom_60 rfl rfl ?_
  refine aw_getf dX8_copyFrom_61 fl_X8_24 (by decide) ce_1 rfl (v := .ref 6) rfl ?_
  refine aw_iconst (v := 0) dX8_copyFrom_64 (by decide) ?_
  refine aw_aload_n dX8_copyFrom_65 rfl rfl ?_
  refine aw_getf dX8_copyFrom_66 fl_X8_24 (by decide) ce_23 rfl (v := .ref 28) rfl ?_
  refine aw_iconst (v := 0) dX8_copyFrom_69 (by decide) ?_
  refine aw_bipush (v := 16) dX8_copyFrom_70 (by decide) ?_
  refine aw_copy dX8_copyFrom_72 ml_X8_47 mc_n mc_s mc_i (by decide) ce_6 (by decide) ce_28 (by decide) (by decide) (by decide) (by decide) (by decide) (Nat.le_of_ble_eq_true rfl) ?_
  refine aw_aload_n dX8_copyFrom_75 rfl rfl ?_
  refine aw_getf dX8_copyFrom_76 fl_X8_27 (by decide) ce_1 rfl (v := .ref 7) rfl ?_
  refine aw_iconst (v := 0) dX8_copyFrom_79 (by decide) ?_
  refine aw_aload_n dX8_copyFrom_80 rfl rfl ?_
  refine aw_getf dX8_copyFrom_81 fl_X8_27 (by decide) ce_23 rfl (v := .ref 29) rfl ?_
  refine aw_iconst (v := 0) dX8_copyFrom_84 (by decide) ?_
  refine aw_bipush (v := 12) dX8_copyFrom_85 (by decide) ?_
  refine aw_copy dX8_copyFrom_87 ml_X8_47 mc_n mc_s mc_i (by decide) ce_7 (by decide) ce_29 (by decide) (by decide) (by decide) (by decide) (by decide) (Nat.le_of_ble_eq_true rfl) ?_
  refine aw_aload_n dX8_copyFrom_90 rfl rfl ?_
  refine aw_getf dX8_copyFrom_91 fl_X8_30 (by decide) ce_1 rfl (v := .ref 8) rfl ?_
  refine aw_iconst (v := 0) dX8_copyFrom_94 (by decide) ?_
  refine aw_aload_n dX8_copyFrom_95 rfl rfl ?_
  refine aw_getf dX8_copyFrom_96 fl_X8_30 (by decide) ce_23 rfl (v := .ref 30) rfl ?_
  refine aw_iconst (v := 0) dX8_copyFrom_99 (by decide) ?_
  refine aw_bipush (v := 12) dX8_copyFrom_100 (by decide) ?_
  refine aw_copy dX8_copyFrom_102 ml_X8_47 mc_n mc_s mc_i (by decide) ce_8 (by decide) ce_30 (by decide) (by decide) (by decide) (by decide) (by decide) (Nat.le_of_ble_eq_true rfl) ?_
  refine aw_aload_n dX8_copyFrom_105 rfl rfl ?_
  refine aw_aload_n dX8_copyFrom_106 rfl rfl ?_
  refine aw_getf dX8_copyFrom_107 fl_X8_53 (by decide) ce_1 rfl (v := .int (M 1 7)) rfl ?_
  refine aw_putf dX8_copyFrom_110 fp_X8_53 (by decide) ce_23 rfl rfl rfl ?_
  refine aw_aload_n dX8_copyFrom_113 rfl rfl ?_
  refine aw_aload_n dX8_copyFrom_114 rfl rfl ?_
  refine aw_getf dX8_copyFrom_115 fl_X8_56 (by decide) ce_1 rfl (v := .int (M 1 8)) rfl ?_
  refine aw_putf dX8_copyFrom_118 fp_X8_56 (by decide) ce_23 rfl rfl rfl ?_
  refine aw_aload_n dX8_copyFrom_121 rfl rfl ?_
  refine aw_aload_n dX8_copyFrom_122 rfl rfl ?_
  refine aw_getf dX8_copyFrom_123 fl_X8_59 (by decide) ce_1 rfl (v := .int (M 1 9)) rfl ?_
  refine aw_putf dX8_copyFrom_126 fp_X8_59 (by decide) ce_23 rfl rfl rfl ?_
  refine aw_aload_n dX8_copyFrom_129 rfl rfl ?_
  refine aw_aload_n dX8_copyFrom_130 rfl rfl ?_
  refine aw_getf dX8_copyFrom_131 fl_X8_62 (by decide) ce_1 rfl (v := .int (M 1 10)) rfl ?_
  refine aw_putf dX8_copyFrom_134 fp_X8_62 (by decide) ce_23 rfl rfl rfl ?_
  refine aw_aload_n dX8_copyFrom_137 rfl rfl ?_
  refine aw_aload_n dX8_copyFrom_138 rfl rfl ?_
  refine aw_getf dX8_copyFrom_139 fl_X8_33 (by decide) ce_1 rfl (v := .int (M 1 11)) rfl ?_
  refine aw_putf dX8_copyFrom_142 fp_X8_33 (by decide) ce_23 rfl rfl rfl ?_
  exact aw_vret dX8_copyFrom_145 rfl h
abbrev AX2_copyFrom (d : Nat) (Q : Option Int32 → Mem → Prop) (pc : Nat) (L : List (Option Value)) (st : List Value) (M : Mem) : Prop := AW none RX2 cX2_copyFrom 2 none d Q pc L st M
theorem eX2_copyFrom_37_53 {d : Nat} {Q : Option Int32 → Mem → Prop} (M : Mem) (h : AX2_copyFrom d Q 0 [lR 37, lR 53] [] M) : AM d iX2_copyFrom [.ref 37, .ref 53] M Q := AM.of2 (by decide) rfl rfl h
theorem bX2_copyFrom_37_53_0 {d : Nat} {Q : Option Int32 → Mem → Prop} (M : Mem) (h : Q none (cp (cp (cp (cp (cp (cp (wr (wr M 37 0 (M 53 0)) 37 1 (M 53 1)) 38 54 160) 39 55 160) 40 56 12) 41 57 12) 42 58 12) 43 59 12)) : AX2_copyFrom (d + 1) Q 0 [lR 37, lR 53] [] M := by
  refine aw_aload_n dX2_copyFrom_0 rfl rfl ?_
  refine aw_aload_n dX2_copyFrom_1 rfl rfl ?_
  refine aw_getf dX2_copyFrom_2 fl_X2_33 (by decide) ce_53 rfl (v := .int (M 53 0)) rfl ?_
  refine aw_putf dX2_copyFrom_5 fp_X2_33 (by decide) ce_37 rfl rfl rfl ?_
  refine aw_aload_n dX2_copyFrom_8 rfl rfl ?_
  refine aw_aload_n dX2_copyFrom_9 rfl rfl ?_
  refine aw_getf dX2_copyFrom_10 fl_X2_37 (by decide) ce_53 rfl (v := .int (M 53 1)) rfl ?_
  refine aw_putf dX2_copyFrom_13 fp_X2_37 (by decide) ce_37 rfl rfl rfl ?_
  refine aw_aload_n dX2_copyFrom_16 rfl rfl ?_
  refine aw_getf dX2_copyFrom_17 fl_X2_9 (by decide) ce_53 rfl (v := .ref 54) rfl ?_
  refine aw_iconst (v := 0) dX2_copyFrom_20 (by decide) ?_
  refine aw_aload_n dX2_copyFrom_21 rfl rfl ?_
  refine aw_getf dX2_copyFrom_22 fl_X2_9 (by decide) ce_37 rfl (v := .ref 38) rfl ?_
  refine aw_iconst (v := 0) dX2_copyFrom_25 (by decide) ?_
  refine aw_sipush (v := 160) dX2_copyFrom_26 (by decide) ?_
  refine aw_copy dX2_copyFrom_29 ml_X2_40 mc_n mc_s mc_i (by decide) ce_54 (by decide) ce_38 (by decide) (by decide) (by decide) (by decide) (by decide) (Nat.le_of_ble_eq_true rfl) ?_
  refine aw_aload_n dX2_copyFrom_32 rfl rfl ?_
  refine aw_getf dX2_copyFrom_33 fl_X2_15 (by decide) ce_53 rfl (v := .ref 55) rfl ?_
  refine aw_iconst (v := 0) dX2_copyFrom_36 (by decide) ?_
  refine aw_aload_n dX2_copyFrom_37 rfl rfl ?_
  refine aw_getf dX2_copyFrom_38 fl_X2_15 (by decide) ce_37 rfl (v := .ref 39) rfl ?_
  refine aw_iconst (v := 0) dX2_copyFrom_41 (by decide) ?_
  refine aw_sipush (v := 160) dX2_copyFrom_42 (by decide) ?_
  refine aw_copy dX2_copyFrom_45 ml_X2_40 mc_n mc_s mc_i (by decide) ce_55 (by decide) ce_39 (by decide) (by decide) (by decide) (by decide) (by decide) (Nat.le_of_ble_eq_true rfl) ?_
  refine aw_aload_n dX2_copyFrom_48 rfl rfl ?_
  refine aw_getf dX2_copyFrom_49 fl_X2_18 (by decide) ce_53 rfl (v := .ref 56) rfl ?_
  refine aw_iconst (v := 0) dX2_copyFrom_52 (by decide) ?_
  refine aw_aload_n dX2_copyFrom_53 rfl rfl ?_
  refine aw_getf dX2_copyFrom_54 fl_X2_18 (by decide) ce_37 rfl (v := .ref 40) rfl ?_
  refine aw_iconst (v := 0) dX2_copyFrom_57 (by decide) ?_
  refine aw_bipush (v := 12) dX2_copyFrom_58 (by decide) ?_
  refine aw_copy dX2_copyFrom_60 ml_X2_40 mc_n mc_s mc_i (by decide) ce_56 (by decide) ce_40 (by decide) (by decide) (by decide) (by decide) (by decide) (Nat.le_of_ble_eq_true rfl) ?_
  refine aw_aload_n dX2_copyFrom_63 rfl rfl ?_
  refine aw_getf dX2_copyFrom_64 fl_X2_21 (by decide) ce_53 rfl (v := .ref 57) rfl ?_
  refine aw_iconst (v := 0) dX2_copyFrom_67 (by decide) ?_
  refine aw_aload_n dX2_copyFrom_68 rfl rfl ?_
  refine aw_getf dX2_copyFrom_69 fl_X2_21 (by decide) ce_37 rfl (v := .ref 41) rfl ?_
  refine aw_iconst (v := 0) dX2_copyFrom_72 (by decide) ?_
  refine aw_bipush (v := 12) dX2_copyFrom_73 (by decide) ?_
  refine aw_copy dX2_copyFrom_75 ml_X2_40 mc_n mc_s mc_i (by decide) ce_57 (by decide) ce_41 (by decide) (by decide) (by decide) (by decide) (by decide) (Nat.le_of_ble_eq_true rfl) ?_
  refine aw_aload_n dX2_copyFrom_78 rfl rfl ?_
  refine aw_getf dX2_copyFrom_79 fl_X2_24 (by decide) ce_53 rfl (v := .ref 58) rfl ?_
  refine aw_iconst (v := 0) dX2_copyFrom_82 (by decide) ?_
  refine aw_aload_n dX2_copyFrom_83 rfl rfl ?_
  refine aw_getf dX2_copyFrom_84 fl_X2_24 (by decide) ce_37 rfl (v := .ref 42) rfl ?_
  refine aw_iconst (v := 0) dX2_copyFrom_87 (by decide) ?_
  refine aw_bipush (v := 12) dX2_copyFrom_88 (by decide) ?_
  refine aw_copy dX2_copyFrom_90 ml_X2_40 mc_n mc_s mc_i (by decide) ce_58 (by decide) ce_42 (by decide) (by decide) (by decide) (by decide) (by decide) (Nat.le_of_ble_eq_true rfl) ?_
  refine aw_aload_n dX2_copyFrom_93 rfl rfl ?_
  refine aw_getf dX2_copyFrom_94 fl_X2_27 (by decide) ce_53 rfl (v := .ref 59) rfl ?_
  refine aw_iconst (v := 0) dX2_copyFrom_97 (by decide) ?_
  refine aw_aload_n dX2_copyFrom_98 rfl rfl ?_
  refine aw_getf dX2_copyFrom_99 fl_X2_27 (by decide) ce_37 rfl (v := .ref 43) rfl ?_
  refine aw_iconst (v := 0) dX2_copyFrom_102 (by decide) ?_
  refine aw_bipush (v := 12) dX2_copyFrom_103 (by decide) ?_
  refine aw_copy dX2_copyFrom_105 ml_X2_40 mc_n mc_s mc_i (by decide) ce_59 (by decide) ce_43 (by decide) (by decide) (by decide) (by decide) (by decide) (Nat.le_of_ble_eq_true rfl) ?_
  exact aw_vret dX2_copyFrom_108 rfl h
theorem eX2_copyFrom_45_53 {d : Nat} {Q : Option Int32 → Mem → Prop} (M : Mem) (h : AX2_copyFrom d Q 0 [lR 45, lR 53] [] M) : AM d iX2_copyFrom [.ref 45, .ref 53] M Q := AM.of2 (by decide) rfl rfl h
theorem bX2_copyFrom_45_53_0 {d : Nat} {Q : Option Int32 → Mem → Prop} (M : Mem) (h : Q none (cp (cp (cp (cp (cp (cp (wr (wr M 45 0 (M 53 0)) 45 1 (M 53 1)) 46 54 160) 47 55 160) 48 56 12) 49 57 12) 50 58 12) 51 59 12)) : AX2_copyFrom (d + 1) Q 0 [lR 45, lR 53] [] M := by
  refine aw_aload_n dX2_copyFrom_0 rfl rfl ?_
  refine aw_aload_n dX2_copyFrom_1 rfl rfl ?_
  refine aw_getf dX2_copyFrom_2 fl_X2_33 (by decide) ce_53 rfl (v := .int (M 53 0)) rfl ?_
  refine aw_putf dX2_copyFrom_5 fp_X2_33 (by decide) ce_45 rfl rfl rfl ?_
  refine aw_aload_n dX2_copyFrom_8 rfl rfl ?_
  refine aw_aload_n dX2_copyFrom_9 rfl rfl ?_
  refine aw_getf dX2_copyFrom_10 fl_X2_37 (by decide) ce_53 rfl (v := .int (M 53 1)) rfl ?_
  refine aw_putf dX2_copyFrom_13 fp_X2_37 (by decide) ce_45 rfl rfl rfl ?_
  refine aw_aload_n dX2_copyFrom_16 rfl rfl ?_
  refine aw_getf dX2_copyFrom_17 fl_X2_9 (by decide) ce_53 rfl (v := .ref 54) rfl ?_
  refine aw_iconst (v := 0) dX2_copyFrom_20 (by decide) ?_
  refine aw_aload_n dX2_copyFrom_21 rfl rfl ?_
  refine aw_getf dX2_copyFrom_22 fl_X2_9 (by decide) ce_45 rfl (v := .ref 46) rfl ?_
  refine aw_iconst (v := 0) dX2_copyFrom_25 (by decide) ?_
  refine aw_sipush (v := 160) dX2_copyFrom_26 (by decide) ?_
  refine aw_copy dX2_copyFrom_29 ml_X2_40 mc_n mc_s mc_i (by decide) ce_54 (by decide) ce_46 (by decide) (by decide) (by decide) (by decide) (by decide) (Nat.le_of_ble_eq_true rfl) ?_
  refine aw_aload_n dX2_copyFrom_32 rfl rfl ?_
  refine aw_getf dX2_copyFrom_33 fl_X2_15 (by decide) ce_53 rfl (v := .ref 55) rfl ?_
  refine aw_iconst (v := 0) dX2_copyFrom_36 (by decide) ?_
  refine aw_aload_n dX2_copyFrom_37 rfl rfl ?_
  refine aw_getf dX2_copyFrom_38 fl_X2_15 (by decide) ce_45 rfl (v := .ref 47) rfl ?_
  refine aw_iconst (v := 0) dX2_copyFrom_41 (by decide) ?_
  refine aw_sipush (v := 160) dX2_copyFrom_42 (by decide) ?_
  refine aw_copy dX2_copyFrom_45 ml_X2_40 mc_n mc_s mc_i (by decide) ce_55 (by decide) ce_47 (by decide) (by decide) (by decide) (by decide) (by decide) (Nat.le_of_ble_eq_true rfl) ?_
  refine aw_aload_n dX2_copyFrom_48 rfl rfl ?_
  refine aw_getf dX2_copyFrom_49 fl_X2_18 (by decide) ce_53 rfl (v := .ref 56) rfl ?_
  refine aw_iconst (v := 0) dX2_copyFrom_52 (by decide) ?_
  refine aw_aload_n dX2_copyFrom_53 rfl rfl ?_
  refine aw_getf dX2_copyFrom_54 fl_X2_18 (by decide) ce_45 rfl (v := .ref 48) rfl ?_
  refine aw_iconst (v := 0) dX2_copyFrom_57 (by decide) ?_
  refine aw_bipush (v := 12) dX2_copyFrom_58 (by decide) ?_
  refine aw_copy dX2_copyFrom_60 ml_X2_40 mc_n mc_s mc_i (by decide) ce_56 (by decide) ce_48 (by decide) (by decide) (by decide) (by decide) (by decide) (Nat.le_of_ble_eq_true rfl) ?_
  refine aw_aload_n dX2_copyFrom_63 rfl rfl ?_
  refine aw_getf dX2_copyFrom_64 fl_X2_21 (by decide) ce_53 rfl (v := .ref 57) rfl ?_
  refine aw_iconst (v := 0) dX2_copyFrom_67 (by decide) ?_
  refine aw_aload_n dX2_copyFrom_68 rfl rfl ?_
  refine aw_getf dX2_copyFrom_69 fl_X2_21 (by decide) ce_45 rfl (v := .ref 49) rfl ?_
  refine aw_iconst (v := 0) dX2_copyFrom_72 (by decide) ?_
  refine aw_bipush (v := 12) dX2_copyFrom_73 (by decide) ?_
  refine aw_copy dX2_copyFrom_75 ml_X2_40 mc_n mc_s mc_i (by decide) ce_57 (by decide) ce_49 (by decide) (by decide) (by decide) (by decide) (by decide) (Nat.le_of_ble_eq_true rfl) ?_
  refine aw_aload_n dX2_copyFrom_78 rfl rfl ?_
  refine aw_getf dX2_copyFrom_79 fl_X2_24 (by decide) ce_53 rfl (v := .ref 58) rfl ?_
  refine aw_iconst (v := 0) dX2_copyFrom_82 (by decide) ?_
  refine aw_aload_n dX2_copyFrom_83 rfl rfl ?_
  refine aw_getf dX2_copyFrom_84 fl_X2_24 (by decide) ce_45 rfl (v := .ref 50) rfl ?_
  refine aw_iconst (v := 0) dX2_copyFrom_87 (by decide) ?_
  refine aw_bipush (v := 12) dX2_copyFrom_88 (by decide) ?_
  refine aw_copy dX2_copyFrom_90 ml_X2_40 mc_n mc_s mc_i (by decide) ce_58 (by decide) ce_50 (by decide) (by decide) (by decide) (by decide) (by decide) (Nat.le_of_ble_eq_true rfl) ?_
  refine aw_aload_n dX2_copyFrom_93 rfl rfl ?_
  refine aw_getf dX2_copyFrom_94 fl_X2_27 (by decide) ce_53 rfl (v := .ref 59) rfl ?_
  refine aw_iconst (v := 0) dX2_copyFrom_97 (by decide) ?_
  refine aw_aload_n dX2_copyFrom_98 rfl rfl ?_
  refine aw_getf dX2_copyFrom_99 fl_X2_27 (by decide) ce_45 rfl (v := .ref 51) rfl ?_
  refine aw_iconst (v := 0) dX2_copyFrom_102 (by decide) ?_
  refine aw_bipush (v := 12) dX2_copyFrom_103 (by decide) ?_
  refine aw_copy dX2_copyFrom_105 ml_X2_40 mc_n mc_s mc_i (by decide) ce_59 (by decide) ce_51 (by decide) (by decide) (by decide) (by decide) (by decide) (Nat.le_of_ble_eq_true rfl) ?_
  exact aw_vret dX2_copyFrom_108 rfl h
abbrev AX4_tellSwearer (d : Nat) (Q : Option Int32 → Mem → Prop) (pc : Nat) (L : List (Option Value)) (st : List Value) (M : Mem) : Prop := AW none RX4 cX4_tellSwearer 3 none d Q pc L st M
theorem eX4_tellSwearer_10_1 {d : Nat} {Q : Option Int32 → Mem → Prop} (M : Mem) (x2 : Int32) (h : AX4_tellSwearer d Q 0 [lR 10, lR 1, lI x2] [] M) : AM d iX4_tellSwearer [.ref 10, .ref 1, .int x2] M Q := AM.of2 (by decide) rfl rfl h
theorem bX4_tellSwearer_10_1_0 {d : Nat} {Q : Option Int32 → Mem → Prop} (M : Mem) (x2 : Int32) (h : AMi d iX8_heightOf [.ref 1, .int x2] M (fun r1 M1 => (vp_in x2 16) ∧ ((vp_in x2 16) ∧ ((vp_in x2 16) ∧ ((vp_in x2 16) ∧ (Q none (wr (wr (wr (wr (wr (wr M1 11 0 r1) 11 1 (M1 3 (ix x2))) 11 2 (M1 4 (ix x2))) 11 3 (M1 5 (ix x2))) 11 4 (M1 2 (ix x2))) 11 5 x2))))))) : AX4_tellSwearer (d + 1) Q 0 [lR 10, lR 1, lI x2] [] M := by
  refine aw_aload_n dX4_tellSwearer_0 rfl rfl ?_
  refine aw_getf dX4_tellSwearer_1 fl_X4_17 (by decide) ce_10 rfl (v := .ref 11) rfl ?_
  refine aw_iconst (v := 0) dX4_tellSwearer_4 (by decide) ?_
  refine aw_aload_n dX4_tellSwearer_5 rfl rfl ?_
  refine aw_iload_n dX4_tellSwearer_6 rfl rfl ?_
  refine aw_callV (mi := iX8_heightOf) (av := [.int x2]) (st := [.int 0, .ref 11]) dX4_tellSwearer_7 ml_X4_21 kX8_heightOf (by decide) ce_1 clX8 rfl rfl rfl (Nat.le_of_ble_eq_true rfl) (AM.mono h (fun r9 M1 h => ?_))
  obtain ⟨r1, rfl, h⟩ := h
  refine aw_iast dX4_tellSwearer_10 (by decide) ce_11 (by unfold vp_in; decide) ?_
  refine aw_aload_n dX4_tellSwearer_11 rfl rfl ?_
  refine aw_getf dX4_tellSwearer_12 fl_X4_17 (by decide) ce_10 rfl (v := .ref 11) rfl ?_
  refine aw_iconst (v := 1) dX4_tellSwearer_15 (by decide) ?_
  refine aw_aload_n dX4_tellSwearer_16 rfl rfl ?_
  refine aw_getf dX4_tellSwearer_17 fl_X4_27 (by decide) ce_1 rfl (v := .ref 3) rfl ?_
  refine aw_iload_n dX4_tellSwearer_20 rfl rfl ?_
  obtain ⟨h9, h⟩ := h
  refine aw_iald dX4_tellSwearer_21 (by decide) ce_3 h9 ?_
  refine aw_iast dX4_tellSwearer_22 (by decide) ce_11 (by unfold vp_in; decide) ?_
  refine aw_aload_n dX4_tellSwearer_23 rfl rfl ?_
  refine aw_getf dX4_tellSwearer_24 fl_X4_17 (by decide) ce_10 rfl (v := .ref 11) rfl ?_
  refine aw_iconst (v := 2) dX4_tellSwearer_27 (by decide) ?_
  refine aw_aload_n dX4_tellSwearer_28 rfl rfl ?_
  refine aw_getf dX4_tellSwearer_29 fl_X4_30 (by decide) ce_1 rfl (v := .ref 4) rfl ?_
  refine aw_iload_n dX4_tellSwearer_32 rfl rfl ?_
  obtain ⟨h9, h⟩ := h
  refine aw_iald dX4_tellSwearer_33 (by decide) ce_4 h9 ?_
  refine aw_iast dX4_tellSwearer_34 (by decide) ce_11 (by unfold vp_in; decide) ?_
  refine aw_aload_n dX4_tellSwearer_35 rfl rfl ?_
  refine aw_getf dX4_tellSwearer_36 fl_X4_17 (by decide) ce_10 rfl (v := .ref 11) rfl ?_
  refine aw_iconst (v := 3) dX4_tellSwearer_39 (by decide) ?_
  refine aw_aload_n dX4_tellSwearer_40 rfl rfl ?_
  refine aw_getf dX4_tellSwearer_41 fl_X4_33 (by decide) ce_1 rfl (v := .ref 5) rfl ?_
  refine aw_iload_n dX4_tellSwearer_44 rfl rfl ?_
  obtain ⟨h9, h⟩ := h
  refine aw_iald dX4_tellSwearer_45 (by decide) ce_5 h9 ?_
  refine aw_iast dX4_tellSwearer_46 (by decide) ce_11 (by unfold vp_in; decide) ?_
  refine aw_aload_n dX4_tellSwearer_47 rfl rfl ?_
  refine aw_getf dX4_tellSwearer_48 fl_X4_17 (by decide) ce_10 rfl (v := .ref 11) rfl ?_
  refine aw_iconst (v := 4) dX4_tellSwearer_51 (by decide) ?_
  refine aw_aload_n dX4_tellSwearer_52 rfl rfl ?_
  refine aw_getf dX4_tellSwearer_53 fl_X4_36 (by decide) ce_1 rfl (v := .ref 2) rfl ?_
  refine aw_iload_n dX4_tellSwearer_56 rfl rfl ?_
  obtain ⟨h9, h⟩ := h
  refine aw_iald dX4_tellSwearer_57 (by decide) ce_2 h9 ?_
  refine aw_iast dX4_tellSwearer_58 (by decide) ce_11 (by unfold vp_in; decide) ?_
  refine aw_aload_n dX4_tellSwearer_59 rfl rfl ?_
  refine aw_getf dX4_tellSwearer_60 fl_X4_17 (by decide) ce_10 rfl (v := .ref 11) rfl ?_
  refine aw_iconst (v := 5) dX4_tellSwearer_63 (by decide) ?_
  refine aw_iload_n dX4_tellSwearer_64 rfl rfl ?_
  refine aw_iast dX4_tellSwearer_65 (by decide) ce_11 (by unfold vp_in; decide) ?_
  exact aw_vret dX4_tellSwearer_66 rfl h
theorem eX4_tellSwearer_32_23 {d : Nat} {Q : Option Int32 → Mem → Prop} (M : Mem) (x2 : Int32) (h : AX4_tellSwearer d Q 0 [lR 32, lR 23, lI x2] [] M) : AM d iX4_tellSwearer [.ref 32, .ref 23, .int x2] M Q := AM.of2 (by decide) rfl rfl h
theorem bX4_tellSwearer_32_23_0 {d : Nat} {Q : Option Int32 → Mem → Prop} (M : Mem) (x2 : Int32) (h : AMi d iX8_heightOf [.ref 23, .int x2] M (fun r1 M1 => (vp_in x2 16) ∧ ((vp_in x2 16) ∧ ((vp_in x2 16) ∧ ((vp_in x2 16) ∧ (Q none (wr (wr (wr (wr (wr (wr M1 33 0 r1) 33 1 (M1 25 (ix x2))) 33 2 (M1 26 (ix x2))) 33 3 (M1 27 (ix x2))) 33 4 (M1 24 (ix x2))) 33 5 x2))))))) : AX4_tellSwearer (d + 1) Q 0 [lR 32, lR 23, lI x2] [] M := by
  refine aw_aload_n dX4_tellSwearer_0 rfl rfl ?_
  refine aw_getf dX4_tellSwearer_1 fl_X4_17 (by decide) ce_32 rfl (v := .ref 33) rfl ?_
  refine aw_iconst (v := 0) dX4_tellSwearer_4 (by decide) ?_
  refine aw_aload_n dX4_tellSwearer_5 rfl rfl ?_
  refine aw_iload_n dX4_tellSwearer_6 rfl rfl ?_
  refine aw_callV (mi := iX8_heightOf) (av := [.int x2]) (st := [.int 0, .ref 33]) dX4_tellSwearer_7 ml_X4_21 kX8_heightOf (by decide) ce_23 clX8 rfl rfl rfl (Nat.le_of_ble_eq_true rfl) (AM.mono h (fun r9 M1 h => ?_))
  obtain ⟨r1, rfl, h⟩ := h
  refine aw_iast dX4_tellSwearer_10 (by decide) ce_33 (by unfold vp_in; decide) ?_
  refine aw_aload_n dX4_tellSwearer_11 rfl rfl ?_
  refine aw_getf dX4_tellSwearer_12 fl_X4_17 (by decide) ce_32 rfl (v := .ref 33) rfl ?_
  refine aw_iconst (v := 1) dX4_tellSwearer_15 (by decide) ?_
  refine aw_aload_n dX4_tellSwearer_16 rfl rfl ?_
  refine aw_getf dX4_tellSwearer_17 fl_X4_27 (by decide) ce_23 rfl (v := .ref 25) rfl ?_
  refine aw_iload_n dX4_tellSwearer_20 rfl rfl ?_
  obtain ⟨h9, h⟩ := h
  refine aw_iald dX4_tellSwearer_21 (by decide) ce_25 h9 ?_
  refine aw_iast dX4_tellSwearer_22 (by decide) ce_33 (by unfold vp_in; decide) ?_
  refine aw_aload_n dX4_tellSwearer_23 rfl rfl ?_
  refine aw_getf dX4_tellSwearer_24 fl_X4_17 (by decide) ce_32 rfl (v := .ref 33) rfl ?_
  refine aw_iconst (v := 2) dX4_tellSwearer_27 (by decide) ?_
  refine aw_aload_n dX4_tellSwearer_28 rfl rfl ?_
  refine aw_getf dX4_tellSwearer_29 fl_X4_30 (by decide) ce_23 rfl (v := .ref 26) rfl ?_
  refine aw_iload_n dX4_tellSwearer_32 rfl rfl ?_
  obtain ⟨h9, h⟩ := h
  refine aw_iald dX4_tellSwearer_33 (by decide) ce_26 h9 ?_
  refine aw_iast dX4_tellSwearer_34 (by decide) ce_33 (by unfold vp_in; decide) ?_
  refine aw_aload_n dX4_tellSwearer_35 rfl rfl ?_
  refine aw_getf dX4_tellSwearer_36 fl_X4_17 (by decide) ce_32 rfl (v := .ref 33) rfl ?_
  refine aw_iconst (v := 3) dX4_tellSwearer_39 (by decide) ?_
  refine aw_aload_n dX4_tellSwearer_40 rfl rfl ?_
  refine aw_getf dX4_tellSwearer_41 fl_X4_33 (by decide) ce_23 rfl (v := .ref 27) rfl ?_
  refine aw_iload_n dX4_tellSwearer_44 rfl rfl ?_
  obtain ⟨h9, h⟩ := h
  refine aw_iald dX4_tellSwearer_45 (by decide) ce_27 h9 ?_
  refine aw_iast dX4_tellSwearer_46 (by decide) ce_33 (by unfold vp_in; decide) ?_
  refine aw_aload_n dX4_tellSwearer_47 rfl rfl ?_
  refine aw_getf dX4_tellSwearer_48 fl_X4_17 (by decide) ce_32 rfl (v := .ref 33) rfl ?_
  refine aw_iconst (v := 4) dX4_tellSwearer_51 (by decide) ?_
  refine aw_aload_n dX4_tellSwearer_52 rfl rfl ?_
  refine aw_getf dX4_tellSwearer_53 fl_X4_36 (by decide) ce_23 rfl (v := .ref 24) rfl ?_
  refine aw_iload_n dX4_tellSwearer_56 rfl rfl ?_
  obtain ⟨h9, h⟩ := h
  refine aw_iald dX4_tellSwearer_57 (by decide) ce_24 h9 ?_
  refine aw_iast dX4_tellSwearer_58 (by decide) ce_33 (by unfold vp_in; decide) ?_
  refine aw_aload_n dX4_tellSwearer_59 rfl rfl ?_
  refine aw_getf dX4_tellSwearer_60 fl_X4_17 (by decide) ce_32 rfl (v := .ref 33) rfl ?_
  refine aw_iconst (v := 5) dX4_tellSwearer_63 (by decide) ?_
  refine aw_iload_n dX4_tellSwearer_64 rfl rfl ?_
  refine aw_iast dX4_tellSwearer_65 (by decide) ce_33 (by unfold vp_in; decide) ?_
  exact aw_vret dX4_tellSwearer_66 rfl h
theorem eX4_tellSwearer_67_1 {d : Nat} {Q : Option Int32 → Mem → Prop} (M : Mem) (x2 : Int32) (h : AX4_tellSwearer d Q 0 [lR 67, lR 1, lI x2] [] M) : AM d iX4_tellSwearer [.ref 67, .ref 1, .int x2] M Q := AM.of2 (by decide) rfl rfl h
theorem bX4_tellSwearer_67_1_0 {d : Nat} {Q : Option Int32 → Mem → Prop} (M : Mem) (x2 : Int32) (h : AMi d iX8_heightOf [.ref 1, .int x2] M (fun r1 M1 => (vp_in x2 16) ∧ ((vp_in x2 16) ∧ ((vp_in x2 16) ∧ ((vp_in x2 16) ∧ (Q none (wr (wr (wr (wr (wr (wr M1 68 0 r1) 68 1 (M1 3 (ix x2))) 68 2 (M1 4 (ix x2))) 68 3 (M1 5 (ix x2))) 68 4 (M1 2 (ix x2))) 68 5 x2))))))) : AX4_tellSwearer (d + 1) Q 0 [lR 67, lR 1, lI x2] [] M := by
  refine aw_aload_n dX4_tellSwearer_0 rfl rfl ?_
  refine aw_getf dX4_tellSwearer_1 fl_X4_17 (by decide) ce_67 rfl (v := .ref 68) rfl ?_
  refine aw_iconst (v := 0) dX4_tellSwearer_4 (by decide) ?_
  refine aw_aload_n dX4_tellSwearer_5 rfl rfl ?_
  refine aw_iload_n dX4_tellSwearer_6 rfl rfl ?_
  refine aw_callV (mi := iX8_heightOf) (av := [.int x2]) (st := [.int 0, .ref 68]) dX4_tellSwearer_7 ml_X4_21 kX8_heightOf (by decide) ce_1 clX8 rfl rfl rfl (Nat.le_of_ble_eq_true rfl) (AM.mono h (fun r9 M1 h => ?_))
  obtain ⟨r1, rfl, h⟩ := h
  refine aw_iast dX4_tellSwearer_10 (by decide) ce_68 (by unfold vp_in; decide) ?_
  refine aw_aload_n dX4_tellSwearer_11 rfl rfl ?_
  refine aw_getf dX4_tellSwearer_12 fl_X4_17 (by decide) ce_67 rfl (v := .ref 68) rfl ?_
  refine aw_iconst (v := 1) dX4_tellSwearer_15 (by decide) ?_
  refine aw_aload_n dX4_tellSwearer_16 rfl rfl ?_
  refine aw_getf dX4_tellSwearer_17 fl_X4_27 (by decide) ce_1 rfl (v := .ref 3) rfl ?_
  refine aw_iload_n dX4_tellSwearer_20 rfl rfl ?_
  obtain ⟨h9, h⟩ := h
  refine aw_iald dX4_tellSwearer_21 (by decide) ce_3 h9 ?_
  refine aw_iast dX4_tellSwearer_22 (by decide) ce_68 (by unfold vp_in; decide) ?_
  refine aw_aload_n dX4_tellSwearer_23 rfl rfl ?_
  refine aw_getf dX4_tellSwearer_24 fl_X4_17 (by decide) ce_67 rfl (v := .ref 68) rfl ?_
  refine aw_iconst (v := 2) dX4_tellSwearer_27 (by decide) ?_
  refine aw_aload_n dX4_tellSwearer_28 rfl rfl ?_
  refine aw_getf dX4_tellSwearer_29 fl_X4_30 (by decide) ce_1 rfl (v := .ref 4) rfl ?_
  refine aw_iload_n dX4_tellSwearer_32 rfl rfl ?_
  obtain ⟨h9, h⟩ := h
  refine aw_iald dX4_tellSwearer_33 (by decide) ce_4 h9 ?_
  refine aw_iast dX4_tellSwearer_34 (by decide) ce_68 (by unfold vp_in; decide) ?_
  refine aw_aload_n dX4_tellSwearer_35 rfl rfl ?_
  refine aw_getf dX4_tellSwearer_36 fl_X4_17 (by decide) ce_67 rfl (v := .ref 68) rfl ?_
  refine aw_iconst (v := 3) dX4_tellSwearer_39 (by decide) ?_
  refine aw_aload_n dX4_tellSwearer_40 rfl rfl ?_
  refine aw_getf dX4_tellSwearer_41 fl_X4_33 (by decide) ce_1 rfl (v := .ref 5) rfl ?_
  refine aw_iload_n dX4_tellSwearer_44 rfl rfl ?_
  obtain ⟨h9, h⟩ := h
  refine aw_iald dX4_tellSwearer_45 (by decide) ce_5 h9 ?_
  refine aw_iast dX4_tellSwearer_46 (by decide) ce_68 (by unfold vp_in; decide) ?_
  refine aw_aload_n dX4_tellSwearer_47 rfl rfl ?_
  refine aw_getf dX4_tellSwearer_48 fl_X4_17 (by decide) ce_67 rfl (v := .ref 68) rfl ?_
  refine aw_iconst (v := 4) dX4_tellSwearer_51 (by decide) ?_
  refine aw_aload_n dX4_tellSwearer_52 rfl rfl ?_
  refine aw_getf dX4_tellSwearer_53 fl_X4_36 (by decide) ce_1 rfl (v := .ref 2) rfl ?_
  refine aw_iload_n dX4_tellSwearer_56 rfl rfl ?_
  obtain ⟨h9, h⟩ := h
  refine aw_iald dX4_tellSwearer_57 (by decide) ce_2 h9 ?_
  refine aw_iast dX4_tellSwearer_58 (by decide) ce_68 (by unfold vp_in; decide) ?_
  refine aw_aload_n dX4_tellSwearer_59 rfl rfl ?_
  refine aw_getf dX4_tellSwearer_60 fl_X4_17 (by decide) ce_67 rfl (v := .ref 68) rfl ?_
  refine aw_iconst (v := 5) dX4_tellSwearer_63 (by decide) ?_
  refine aw_iload_n dX4_tellSwearer_64 rfl rfl ?_
  refine aw_iast dX4_tellSwearer_65 (by decide) ce_68 (by unfold vp_in; decide) ?_
  exact aw_vret dX4_tellSwearer_66 rfl h
theorem eX4_tellSwearer_67_23 {d : Nat} {Q : Option Int32 → Mem → Prop} (M : Mem) (x2 : Int32) (h : AX4_tellSwearer d Q 0 [lR 67, lR 23, lI x2] [] M) : AM d iX4_tellSwearer [.ref 67, .ref 23, .int x2] M Q := AM.of2 (by decide) rfl rfl h
theorem bX4_tellSwearer_67_23_0 {d : Nat} {Q : Option Int32 → Mem → Prop} (M : Mem) (x2 : Int32) (h : AMi d iX8_heightOf [.ref 23, .int x2] M (fun r1 M1 => (vp_in x2 16) ∧ ((vp_in x2 16) ∧ ((vp_in x2 16) ∧ ((vp_in x2 16) ∧ (Q none (wr (wr (wr (wr (wr (wr M1 68 0 r1) 68 1 (M1 25 (ix x2))) 68 2 (M1 26 (ix x2))) 68 3 (M1 27 (ix x2))) 68 4 (M1 24 (ix x2))) 68 5 x2))))))) : AX4_tellSwearer (d + 1) Q 0 [lR 67, lR 23, lI x2] [] M := by
  refine aw_aload_n dX4_tellSwearer_0 rfl rfl ?_
  refine aw_getf dX4_tellSwearer_1 fl_X4_17 (by decide) ce_67 rfl (v := .ref 68) rfl ?_
  refine aw_iconst (v := 0) dX4_tellSwearer_4 (by decide) ?_
  refine aw_aload_n dX4_tellSwearer_5 rfl rfl ?_
  refine aw_iload_n dX4_tellSwearer_6 rfl rfl ?_
  refine aw_callV (mi := iX8_heightOf) (av := [.int x2]) (st := [.int 0, .ref 68]) dX4_tellSwearer_7 ml_X4_21 kX8_heightOf (by decide) ce_23 clX8 rfl rfl rfl (Nat.le_of_ble_eq_true rfl) (AM.mono h (fun r9 M1 h => ?_))
  obtain ⟨r1, rfl, h⟩ := h
  refine aw_iast dX4_tellSwearer_10 (by decide) ce_68 (by unfold vp_in; decide) ?_
  refine aw_aload_n dX4_tellSwearer_11 rfl rfl ?_
  refine aw_getf dX4_tellSwearer_12 fl_X4_17 (by decide) ce_67 rfl (v := .ref 68) rfl ?_
  refine aw_iconst (v := 1) dX4_tellSwearer_15 (by decide) ?_
  refine aw_aload_n dX4_tellSwearer_16 rfl rfl ?_
  refine aw_getf dX4_tellSwearer_17 fl_X4_27 (by decide) ce_23 rfl (v := .ref 25) rfl ?_
  refine aw_iload_n dX4_tellSwearer_20 rfl rfl ?_
  obtain ⟨h9, h⟩ := h
  refine aw_iald dX4_tellSwearer_21 (by decide) ce_25 h9 ?_
  refine aw_iast dX4_tellSwearer_22 (by decide) ce_68 (by unfold vp_in; decide) ?_
  refine aw_aload_n dX4_tellSwearer_23 rfl rfl ?_
  refine aw_getf dX4_tellSwearer_24 fl_X4_17 (by decide) ce_67 rfl (v := .ref 68) rfl ?_
  refine aw_iconst (v := 2) dX4_tellSwearer_27 (by decide) ?_
  refine aw_aload_n dX4_tellSwearer_28 rfl rfl ?_
  refine aw_getf dX4_tellSwearer_29 fl_X4_30 (by decide) ce_23 rfl (v := .ref 26) rfl ?_
  refine aw_iload_n dX4_tellSwearer_32 rfl rfl ?_
  obtain ⟨h9, h⟩ := h
  refine aw_iald dX4_tellSwearer_33 (by decide) ce_26 h9 ?_
  refine aw_iast dX4_tellSwearer_34 (by decide) ce_68 (by unfold vp_in; decide) ?_
  refine aw_aload_n dX4_tellSwearer_35 rfl rfl ?_
  refine aw_getf dX4_tellSwearer_36 fl_X4_17 (by decide) ce_67 rfl (v := .ref 68) rfl ?_
  refine aw_iconst (v := 3) dX4_tellSwearer_39 (by decide) ?_
  refine aw_aload_n dX4_tellSwearer_40 rfl rfl ?_
  refine aw_getf dX4_tellSwearer_41 fl_X4_33 (by decide) ce_23 rfl (v := .ref 27) rfl ?_
  refine aw_iload_n dX4_tellSwearer_44 rfl rfl ?_
  obtain ⟨h9, h⟩ := h
  refine aw_iald dX4_tellSwearer_45 (by decide) ce_27 h9 ?_
  refine aw_iast dX4_tellSwearer_46 (by decide) ce_68 (by unfold vp_in; decide) ?_
  refine aw_aload_n dX4_tellSwearer_47 rfl rfl ?_
  refine aw_getf dX4_tellSwearer_48 fl_X4_17 (by decide) ce_67 rfl (v := .ref 68) rfl ?_
  refine aw_iconst (v := 4) dX4_tellSwearer_51 (by decide) ?_
  refine aw_aload_n dX4_tellSwearer_52 rfl rfl ?_
  refine aw_getf dX4_tellSwearer_53 fl_X4_36 (by decide) ce_23 rfl (v := .ref 24) rfl ?_
  refine aw_iload_n dX4_tellSwearer_56 rfl rfl ?_
  obtain ⟨h9, h⟩ := h
  refine aw_iald dX4_tellSwearer_57 (by decide) ce_24 h9 ?_
  refine aw_iast dX4_tellSwearer_58 (by decide) ce_68 (by unfold vp_in; decide) ?_
  refine aw_aload_n dX4_tellSwearer_59 rfl rfl ?_
  refine aw_getf dX4_tellSwearer_60 fl_X4_17 (by decide) ce_67 rfl (v := .ref 68) rfl ?_
  refine aw_iconst (v := 5) dX4_tellSwearer_63 (by decide) ?_
  refine aw_iload_n dX4_tellSwearer_64 rfl rfl ?_
  refine aw_iast dX4_tellSwearer_65 (by decide) ce_68 (by unfold vp_in; decide) ?_
  exact aw_vret dX4_tellSwearer_66 rfl h
abbrev AX4_tellSwornTo (d : Nat) (Q : Option Int32 → Mem → Prop) (pc : Nat) (L : List (Option Value)) (st : List Value) (M : Mem) : Prop := AW none RX4 cX4_tellSwornTo 3 none d Q pc L st M
theorem eX4_tellSwornTo_10_1 {d : Nat} {Q : Option Int32 → Mem → Prop} (M : Mem) (x2 : Int32) (h : AX4_tellSwornTo d Q 0 [lR 10, lR 1, lI x2] [] M) : AM d iX4_tellSwornTo [.ref 10, .ref 1, .int x2] M Q := AM.of2 (by decide) rfl rfl h
theorem bX4_tellSwornTo_10_1_0 {d : Nat} {Q : Option Int32 → Mem → Prop} (M : Mem) (x2 : Int32) (h : AMi d iX8_heightOf [.ref 1, .int x2] M (fun r1 M1 => (vp_in x2 16) ∧ ((vp_in x2 16) ∧ ((vp_in x2 16) ∧ (Q none (wr (wr (wr (wr M1 11 6 r1) 11 7 (M1 3 (ix x2))) 11 8 (M1 4 (ix x2))) 11 9 (M1 2 (ix x2)))))))) : AX4_tellSwornTo (d + 1) Q 0 [lR 10, lR 1, lI x2] [] M := by
  refine aw_aload_n dX4_tellSwornTo_0 rfl rfl ?_
  refine aw_getf dX4_tellSwornTo_1 fl_X4_17 (by decide) ce_10 rfl (v := .ref 11) rfl ?_
  refine aw_bipush (v := 6) dX4_tellSwornTo_4 (by decide) ?_
  refine aw_aload_n dX4_tellSwornTo_6 rfl rfl ?_
  refine aw_iload_n dX4_tellSwornTo_7 rfl rfl ?_
  refine aw_callV (mi := iX8_heightOf) (av := [.int x2]) (st := [.int 6, .ref 11]) dX4_tellSwornTo_8 ml_X4_21 kX8_heightOf (by decide) ce_1 clX8 rfl rfl rfl (Nat.le_of_ble_eq_true rfl) (AM.mono h (fun r9 M1 h => ?_))
  obtain ⟨r1, rfl, h⟩ := h
  refine aw_iast dX4_tellSwornTo_11 (by decide) ce_11 (by unfold vp_in; decide) ?_
  refine aw_aload_n dX4_tellSwornTo_12 rfl rfl ?_
  refine aw_getf dX4_tellSwornTo_13 fl_X4_17 (by decide) ce_10 rfl (v := .ref 11) rfl ?_
  refine aw_bipush (v := 7) dX4_tellSwornTo_16 (by decide) ?_
  refine aw_aload_n dX4_tellSwornTo_18 rfl rfl ?_
  refine aw_getf dX4_tellSwornTo_19 fl_X4_27 (by decide) ce_1 rfl (v := .ref 3) rfl ?_
  refine aw_iload_n dX4_tellSwornTo_22 rfl rfl ?_
  obtain ⟨h9, h⟩ := h
  refine aw_iald dX4_tellSwornTo_23 (by decide) ce_3 h9 ?_
  refine aw_iast dX4_tellSwornTo_24 (by decide) ce_11 (by unfold vp_in; decide) ?_
  refine aw_aload_n dX4_tellSwornTo_25 rfl rfl ?_
  refine aw_getf dX4_tellSwornTo_26 fl_X4_17 (by decide) ce_10 rfl (v := .ref 11) rfl ?_
  refine aw_bipush (v := 8) dX4_tellSwornTo_29 (by decide) ?_
  refine aw_aload_n dX4_tellSwornTo_31 rfl rfl ?_
  refine aw_getf dX4_tellSwornTo_32 fl_X4_30 (by decide) ce_1 rfl (v := .ref 4) rfl ?_
  refine aw_iload_n dX4_tellSwornTo_35 rfl rfl ?_
  obtain ⟨h9, h⟩ := h
  refine aw_iald dX4_tellSwornTo_36 (by decide) ce_4 h9 ?_
  refine aw_iast dX4_tellSwornTo_37 (by decide) ce_11 (by unfold vp_in; decide) ?_
  refine aw_aload_n dX4_tellSwornTo_38 rfl rfl ?_
  refine aw_getf dX4_tellSwornTo_39 fl_X4_17 (by decide) ce_10 rfl (v := .ref 11) rfl ?_
  refine aw_bipush (v := 9) dX4_tellSwornTo_42 (by decide) ?_
  refine aw_aload_n dX4_tellSwornTo_44 rfl rfl ?_
  refine aw_getf dX4_tellSwornTo_45 fl_X4_36 (by decide) ce_1 rfl (v := .ref 2) rfl ?_
  refine aw_iload_n dX4_tellSwornTo_48 rfl rfl ?_
  obtain ⟨h9, h⟩ := h
  refine aw_iald dX4_tellSwornTo_49 (by decide) ce_2 h9 ?_
  refine aw_iast dX4_tellSwornTo_50 (by decide) ce_11 (by unfold vp_in; decide) ?_
  exact aw_vret dX4_tellSwornTo_51 rfl h
theorem eX4_tellSwornTo_32_23 {d : Nat} {Q : Option Int32 → Mem → Prop} (M : Mem) (x2 : Int32) (h : AX4_tellSwornTo d Q 0 [lR 32, lR 23, lI x2] [] M) : AM d iX4_tellSwornTo [.ref 32, .ref 23, .int x2] M Q := AM.of2 (by decide) rfl rfl h
theorem bX4_tellSwornTo_32_23_0 {d : Nat} {Q : Option Int32 → Mem → Prop} (M : Mem) (x2 : Int32) (h : AMi d iX8_heightOf [.ref 23, .int x2] M (fun r1 M1 => (vp_in x2 16) ∧ ((vp_in x2 16) ∧ ((vp_in x2 16) ∧ (Q none (wr (wr (wr (wr M1 33 6 r1) 33 7 (M1 25 (ix x2))) 33 8 (M1 26 (ix x2))) 33 9 (M1 24 (ix x2)))))))) : AX4_tellSwornTo (d + 1) Q 0 [lR 32, lR 23, lI x2] [] M := by
  refine aw_aload_n dX4_tellSwornTo_0 rfl rfl ?_
  refine aw_getf dX4_tellSwornTo_1 fl_X4_17 (by decide) ce_32 rfl (v := .ref 33) rfl ?_
  refine aw_bipush (v := 6) dX4_tellSwornTo_4 (by decide) ?_
  refine aw_aload_n dX4_tellSwornTo_6 rfl rfl ?_
  refine aw_iload_n dX4_tellSwornTo_7 rfl rfl ?_
  refine aw_callV (mi := iX8_heightOf) (av := [.int x2]) (st := [.int 6, .ref 33]) dX4_tellSwornTo_8 ml_X4_21 kX8_heightOf (by decide) ce_23 clX8 rfl rfl rfl (Nat.le_of_ble_eq_true rfl) (AM.mono h (fun r9 M1 h => ?_))
  obtain ⟨r1, rfl, h⟩ := h
  refine aw_iast dX4_tellSwornTo_11 (by decide) ce_33 (by unfold vp_in; decide) ?_
  refine aw_aload_n dX4_tellSwornTo_12 rfl rfl ?_
  refine aw_getf dX4_tellSwornTo_13 fl_X4_17 (by decide) ce_32 rfl (v := .ref 33) rfl ?_
  refine aw_bipush (v := 7) dX4_tellSwornTo_16 (by decide) ?_
  refine aw_aload_n dX4_tellSwornTo_18 rfl rfl ?_
  refine aw_getf dX4_tellSwornTo_19 fl_X4_27 (by decide) ce_23 rfl (v := .ref 25) rfl ?_
  refine aw_iload_n dX4_tellSwornTo_22 rfl rfl ?_
  obtain ⟨h9, h⟩ := h
  refine aw_iald dX4_tellSwornTo_23 (by decide) ce_25 h9 ?_
  refine aw_iast dX4_tellSwornTo_24 (by decide) ce_33 (by unfold vp_in; decide) ?_
  refine aw_aload_n dX4_tellSwornTo_25 rfl rfl ?_
  refine aw_getf dX4_tellSwornTo_26 fl_X4_17 (by decide) ce_32 rfl (v := .ref 33) rfl ?_
  refine aw_bipush (v := 8) dX4_tellSwornTo_29 (by decide) ?_
  refine aw_aload_n dX4_tellSwornTo_31 rfl rfl ?_
  refine aw_getf dX4_tellSwornTo_32 fl_X4_30 (by decide) ce_23 rfl (v := .ref 26) rfl ?_
  refine aw_iload_n dX4_tellSwornTo_35 rfl rfl ?_
  obtain ⟨h9, h⟩ := h
  refine aw_iald dX4_tellSwornTo_36 (by decide) ce_26 h9 ?_
  refine aw_iast dX4_tellSwornTo_37 (by decide) ce_33 (by unfold vp_in; decide) ?_
  refine aw_aload_n dX4_tellSwornTo_38 rfl rfl ?_
  refine aw_getf dX4_tellSwornTo_39 fl_X4_17 (by decide) ce_32 rfl (v := .ref 33) rfl ?_
  refine aw_bipush (v := 9) dX4_tellSwornTo_42 (by decide) ?_
  refine aw_aload_n dX4_tellSwornTo_44 rfl rfl ?_
  refine aw_getf dX4_tellSwornTo_45 fl_X4_36 (by decide) ce_23 rfl (v := .ref 24) rfl ?_
  refine aw_iload_n dX4_tellSwornTo_48 rfl rfl ?_
  obtain ⟨h9, h⟩ := h
  refine aw_iald dX4_tellSwornTo_49 (by decide) ce_24 h9 ?_
  refine aw_iast dX4_tellSwornTo_50 (by decide) ce_33 (by unfold vp_in; decide) ?_
  exact aw_vret dX4_tellSwornTo_51 rfl h
theorem eX4_tellSwornTo_67_1 {d : Nat} {Q : Option Int32 → Mem → Prop} (M : Mem) (x2 : Int32) (h : AX4_tellSwornTo d Q 0 [lR 67, lR 1, lI x2] [] M) : AM d iX4_tellSwornTo [.ref 67, .ref 1, .int x2] M Q := AM.of2 (by decide) rfl rfl h
theorem bX4_tellSwornTo_67_1_0 {d : Nat} {Q : Option Int32 → Mem → Prop} (M : Mem) (x2 : Int32) (h : AMi d iX8_heightOf [.ref 1, .int x2] M (fun r1 M1 => (vp_in x2 16) ∧ ((vp_in x2 16) ∧ ((vp_in x2 16) ∧ (Q none (wr (wr (wr (wr M1 68 6 r1) 68 7 (M1 3 (ix x2))) 68 8 (M1 4 (ix x2))) 68 9 (M1 2 (ix x2)))))))) : AX4_tellSwornTo (d + 1) Q 0 [lR 67, lR 1, lI x2] [] M := by
  refine aw_aload_n dX4_tellSwornTo_0 rfl rfl ?_
  refine aw_getf dX4_tellSwornTo_1 fl_X4_17 (by decide) ce_67 rfl (v := .ref 68) rfl ?_
  refine aw_bipush (v := 6) dX4_tellSwornTo_4 (by decide) ?_
  refine aw_aload_n dX4_tellSwornTo_6 rfl rfl ?_
  refine aw_iload_n dX4_tellSwornTo_7 rfl rfl ?_
  refine aw_callV (mi := iX8_heightOf) (av := [.int x2]) (st := [.int 6, .ref 68]) dX4_tellSwornTo_8 ml_X4_21 kX8_heightOf (by decide) ce_1 clX8 rfl rfl rfl (Nat.le_of_ble_eq_true rfl) (AM.mono h (fun r9 M1 h => ?_))
  obtain ⟨r1, rfl, h⟩ := h
  refine aw_iast dX4_tellSwornTo_11 (by decide) ce_68 (by unfold vp_in; decide) ?_
  refine aw_aload_n dX4_tellSwornTo_12 rfl rfl ?_
  refine aw_getf dX4_tellSwornTo_13 fl_X4_17 (by decide) ce_67 rfl (v := .ref 68) rfl ?_
  refine aw_bipush (v := 7) dX4_tellSwornTo_16 (by decide) ?_
  refine aw_aload_n dX4_tellSwornTo_18 rfl rfl ?_
  refine aw_getf dX4_tellSwornTo_19 fl_X4_27 (by decide) ce_1 rfl (v := .ref 3) rfl ?_
  refine aw_iload_n dX4_tellSwornTo_22 rfl rfl ?_
  obtain ⟨h9, h⟩ := h
  refine aw_iald dX4_tellSwornTo_23 (by decide) ce_3 h9 ?_
  refine aw_iast dX4_tellSwornTo_24 (by decide) ce_68 (by unfold vp_in; decide) ?_
  refine aw_aload_n dX4_tellSwornTo_25 rfl rfl ?_
  refine aw_getf dX4_tellSwornTo_26 fl_X4_17 (by decide) ce_67 rfl (v := .ref 68) rfl ?_
  refine aw_bipush (v := 8) dX4_tellSwornTo_29 (by decide) ?_
  refine aw_aload_n dX4_tellSwornTo_31 rfl rfl ?_
  refine aw_getf dX4_tellSwornTo_32 fl_X4_30 (by decide) ce_1 rfl (v := .ref 4) rfl ?_
  refine aw_iload_n dX4_tellSwornTo_35 rfl rfl ?_
  obtain ⟨h9, h⟩ := h
  refine aw_iald dX4_tellSwornTo_36 (by decide) ce_4 h9 ?_
  refine aw_iast dX4_tellSwornTo_37 (by decide) ce_68 (by unfold vp_in; decide) ?_
  refine aw_aload_n dX4_tellSwornTo_38 rfl rfl ?_
  refine aw_getf dX4_tellSwornTo_39 fl_X4_17 (by decide) ce_67 rfl (v := .ref 68) rfl ?_
  refine aw_bipush (v := 9) dX4_tellSwornTo_42 (by decide) ?_
  refine aw_aload_n dX4_tellSwornTo_44 rfl rfl ?_
  refine aw_getf dX4_tellSwornTo_45 fl_X4_36 (by decide) ce_1 rfl (v := .ref 2) rfl ?_
  refine aw_iload_n dX4_tellSwornTo_48 rfl rfl ?_
  obtain ⟨h9, h⟩ := h
  refine aw_iald dX4_tellSwornTo_49 (by decide) ce_2 h9 ?_
  refine aw_iast dX4_tellSwornTo_50 (by decide) ce_68 (by unfold vp_in; decide) ?_
  exact aw_vret dX4_tellSwornTo_51 rfl h
theorem eX4_tellSwornTo_67_23 {d : Nat} {Q : Option Int32 → Mem → Prop} (M : Mem) (x2 : Int32) (h : AX4_tellSwornTo d Q 0 [lR 67, lR 23, lI x2] [] M) : AM d iX4_tellSwornTo [.ref 67, .ref 23, .int x2] M Q := AM.of2 (by decide) rfl rfl h
theorem bX4_tellSwornTo_67_23_0 {d : Nat} {Q : Option Int32 → Mem → Prop} (M : Mem) (x2 : Int32) (h : AMi d iX8_heightOf [.ref 23, .int x2] M (fun r1 M1 => (vp_in x2 16) ∧ ((vp_in x2 16) ∧ ((vp_in x2 16) ∧ (Q none (wr (wr (wr (wr M1 68 6 r1) 68 7 (M1 25 (ix x2))) 68 8 (M1 26 (ix x2))) 68 9 (M1 24 (ix x2)))))))) : AX4_tellSwornTo (d + 1) Q 0 [lR 67, lR 23, lI x2] [] M := by
  refine aw_aload_n dX4_tellSwornTo_0 rfl rfl ?_
  refine aw_getf dX4_tellSwornTo_1 fl_X4_17 (by decide) ce_67 rfl (v := .ref 68) rfl ?_
  refine aw_bipush (v := 6) dX4_tellSwornTo_4 (by decide) ?_
  refine aw_aload_n dX4_tellSwornTo_6 rfl rfl ?_
  refine aw_iload_n dX4_tellSwornTo_7 rfl rfl ?_
  refine aw_callV (mi := iX8_heightOf) (av := [.int x2]) (st := [.int 6, .ref 68]) dX4_tellSwornTo_8 ml_X4_21 kX8_heightOf (by decide) ce_23 clX8 rfl rfl rfl (Nat.le_of_ble_eq_true rfl) (AM.mono h (fun r9 M1 h => ?_))
  obtain ⟨r1, rfl, h⟩ := h
  refine aw_iast dX4_tellSwornTo_11 (by decide) ce_68 (by unfold vp_in; decide) ?_
  refine aw_aload_n dX4_tellSwornTo_12 rfl rfl ?_
  refine aw_getf dX4_tellSwornTo_13 fl_X4_17 (by decide) ce_67 rfl (v := .ref 68) rfl ?_
  refine aw_bipush (v := 7) dX4_tellSwornTo_16 (by decide) ?_
  refine aw_aload_n dX4_tellSwornTo_18 rfl rfl ?_
  refine aw_getf dX4_tellSwornTo_19 fl_X4_27 (by decide) ce_23 rfl (v := .ref 25) rfl ?_
  refine aw_iload_n dX4_tellSwornTo_22 rfl rfl ?_
  obtain ⟨h9, h⟩ := h
  refine aw_iald dX4_tellSwornTo_23 (by decide) ce_25 h9 ?_
  refine aw_iast dX4_tellSwornTo_24 (by decide) ce_68 (by unfold vp_in; decide) ?_
  refine aw_aload_n dX4_tellSwornTo_25 rfl rfl ?_
  refine aw_getf dX4_tellSwornTo_26 fl_X4_17 (by decide) ce_67 rfl (v := .ref 68) rfl ?_
  refine aw_bipush (v := 8) dX4_tellSwornTo_29 (by decide) ?_
  refine aw_aload_n dX4_tellSwornTo_31 rfl rfl ?_
  refine aw_getf dX4_tellSwornTo_32 fl_X4_30 (by decide) ce_23 rfl (v := .ref 26) rfl ?_
  refine aw_iload_n dX4_tellSwornTo_35 rfl rfl ?_
  obtain ⟨h9, h⟩ := h
  refine aw_iald dX4_tellSwornTo_36 (by decide) ce_26 h9 ?_
  refine aw_iast dX4_tellSwornTo_37 (by decide) ce_68 (by unfold vp_in; decide) ?_
  refine aw_aload_n dX4_tellSwornTo_38 rfl rfl ?_
  refine aw_getf dX4_tellSwornTo_39 fl_X4_17 (by decide) ce_67 rfl (v := .ref 68) rfl ?_
  refine aw_bipush (v := 9) dX4_tellSwornTo_42 (by decide) ?_
  refine aw_aload_n dX4_tellSwornTo_44 rfl rfl ?_
  refine aw_getf dX4_tellSwornTo_45 fl_X4_36 (by decide) ce_23 rfl (v := .ref 24) rfl ?_
  refine aw_iload_n dX4_tellSwornTo_48 rfl rfl ?_
  obtain ⟨h9, h⟩ := h
  refine aw_iald dX4_tellSwornTo_49 (by decide) ce_24 h9 ?_
  refine aw_iast dX4_tellSwornTo_50 (by decide) ce_68 (by unfold vp_in; decide) ?_
  exact aw_vret dX4_tellSwornTo_51 rfl h
