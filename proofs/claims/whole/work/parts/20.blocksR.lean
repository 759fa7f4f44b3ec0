abbrev AX3_sign (d : Nat) (Q : Option Int32 → Mem → Prop) (pc : Nat) (L : List (Option Value)) (st : List Value) (M : Mem) : Prop := AW none RX3 cX3_sign 1 (some .int) d Q pc L st M
theorem eX3_sign {d : Nat} {Q : Option Int32 → Mem → Prop} (M : Mem) (h : AX3_sign d Q 0 [lR 61] [] M) : AM d iX3_sign [.ref 61] M Q := AM.of2 (by decide) rfl rfl h
theorem bX3_sign_0 {d : Nat} {Q : Option Int32 → Mem → Prop} (M : Mem) (h : ((M 61 2) ≤ (M 61 3) → Q (some (-1)) M) ∧ (¬ (M 61 2) ≤ (M 61 3) → (vp_in (M 61 3) 200) ∧ (Q (some (M 35 (ix (M 61 3)))) M))) : AX3_sign d Q 0 [lR 61] [] M := by
  refine aw_aload_n dX3_sign_0 rfl rfl ?_
  refine aw_getf dX3_sign_1 fl_X3_29 (by decide) ce_61 rfl (v := .int (M 61 3)) rfl ?_
  refine aw_aload_n dX3_sign_4 rfl rfl ?_
  refine aw_getf dX3_sign_5 fl_X3_25 (by decide) ce_61 rfl (v := .int (M 61 2)) rfl ?_
  refine aw_icmp_ge (tgt := 26) dX3_sign_8 (by decide) (fun z => ?_) (fun z => ?_)
  · replace h := h.1 z
    refine aw_iconst (v := (-1)) dX3_sign_26 (by decide) ?_
    exact aw_iret dX3_sign_27 rfl rfl h
  · replace h := h.2 z
    refine aw_aload_n dX3_sign_11 rfl rfl ?_
    refine aw_getf dX3_sign_12 fl_X3_9 (by decide) ce_61 rfl (v := .ref 34) rfl ?_
    refine aw_getf dX3_sign_15 fl_X3_135 (by decide) ce_34 rfl (v := .ref 35) rfl ?_
    refine aw_aload_n dX3_sign_18 rfl rfl ?_
    refine aw_getf dX3_sign_19 fl_X3_29 (by decide) ce_61 rfl (v := .int (M 61 3)) rfl ?_
    obtain ⟨h9, h⟩ := h
    refine aw_iald dX3_sign_22 (by decide) ce_35 h9 ?_
    refine aw_goto (tgt := 27) dX3_sign_23 (by decide) ?_
    exact aw_iret dX3_sign_27 rfl rfl h
abbrev AX3_fail (d : Nat) (Q : Option Int32 → Mem → Prop) (pc : Nat) (L : List (Option Value)) (st : List Value) (M : Mem) : Prop := AW none RX3 cX3_fail 2 none d Q pc L st M
theorem eX3_fail {d : Nat} {Q : Option Int32 → Mem → Prop} (M : Mem) (x1 : Int32) (h : AX3_fail d Q 0 [lR 61, lI x1] [] M) : AM d iX3_fail [.ref 61, .int x1] M Q := AM.of2 (by decide) rfl rfl h
theorem bX3_fail_0 {d : Nat} {Q : Option Int32 → Mem → Prop} (M : Mem) (x1 : Int32) (h : (¬ (M 61 4) = 0 → Q none M) ∧ ((M 61 4) = 0 → Q none (wr M 61 4 (((-1000) * x1) - (M 61 3))))) : AX3_fail d Q 0 [lR 61, lI x1] [] M := by
  refine aw_aload_n dX3_fail_0 rfl rfl ?_
  refine aw_getf dX3_fail_1 fl_X3_32 (by decide) ce_61 rfl (v := .int (M 61 4)) rfl ?_
  refine aw_if_ne (tgt := 21) dX3_fail_4 (by decide) (fun z => ?_) (fun z => ?_)
  · replace h := h.1 z
    exact aw_vret dX3_fail_21 rfl h
  · replace h := h.2 z
    refine aw_aload_n dX3_fail_7 rfl rfl ?_
    refine aw_sipush (v := (-1000)) dX3_fail_8 (by decide) ?_
    refine aw_iload_n dX3_fail_11 rfl rfl ?_
    refine aw_imul dX3_fail_12 ?_
    refine aw_aload_n dX3_fail_13 rfl rfl ?_
    refine aw_getf dX3_fail_14 fl_X3_29 (by decide) ce_61 rfl (v := .int (M 61 3)) rfl ?_
    refine aw_isub dX3_fail_17 ?_
    refine aw_putf dX3_fail_18 fp_X3_32 (by decide) ce_61 rfl rfl rfl ?_
    exact aw_vret dX3_fail_21 rfl h
abbrev AX3_opens (d : Nat) (Q : Option Int32 → Mem → Prop) (pc : Nat) (L : List (Option Value)) (st : List Value) (M : Mem) : Prop := AW none RX3 cX3_opens 2 none d Q pc L st M
theorem eX3_opens {d : Nat} {Q : Option Int32 → Mem → Prop} (M : Mem) (x1 : Int32) (h : AX3_opens d Q 0 [lR 61, lI x1] [] M) : AM d iX3_opens [.ref 61, .int x1] M Q := AM.of2 (by decide) rfl rfl h
theorem bX3_opens_0 {d : Nat} {Q : Option Int32 → Mem → Prop} (M : Mem) (x1 : Int32) (h : (x1 < 6 → Q none (wr M 61 3 ((M 61 3) + 1))) ∧ (¬ x1 < 6 → AMv d iX3_fail [.ref 61, .int 5] M (fun M1 => Q none M1))) : AX3_opens (d + 1) Q 0 [lR 61, lI x1] [] M := by
  refine aw_iload_n dX3_opens_0 rfl rfl ?_
  refine aw_bipush (v := 6) dX3_opens_1 (by decide) ?_
  refine aw_icmp_lt (tgt := 14) dX3_opens_3 (by decide) (fun z => ?_) (fun z => ?_)
  · replace h := h.1 z
    refine aw_aload_n dX3_opens_14 rfl rfl ?_
    refine aw_dup dX3_opens_15 rfl ?_
    refine aw_getf dX3_opens_16 fl_X3_29 (by decide) ce_61 rfl (v := .int (M 61 3)) rfl ?_
    refine aw_iconst (v := 1) dX3_opens_19 (by decide) ?_
    refine aw_iadd dX3_opens_20 ?_
    refine aw_putf dX3_opens_21 fp_X3_29 (by decide) ce_61 rfl rfl rfl ?_
    exact aw_vret dX3_opens_24 rfl h
  · replace h := h.2 z
    refine aw_aload_n dX3_opens_6 rfl rfl ?_
    refine aw_iconst (v := 5) dX3_opens_7 (by decide) ?_
    refine aw_callV (mi := iX3_fail) (av := [.int 5]) (st := []) dX3_opens_8 ml_X3_56 kX3_fail (by decide) ce_61 clX3 rfl rfl rfl (Nat.le_of_ble_eq_true rfl) (AM.mono h (fun r9 M1 h => ?_))
    obtain ⟨rfl, h⟩ := h
    refine aw_goto (tgt := 24) dX3_opens_11 (by decide) ?_
    exact aw_vret dX3_opens_24 rfl h
abbrev AX3_pass (d : Nat) (Q : Option Int32 → Mem → Prop) (pc : Nat) (L : List (Option Value)) (st : List Value) (M : Mem) : Prop := AW none RX3 cX3_pass 2 none d Q pc L st M
theorem eX3_pass {d : Nat} {Q : Option Int32 → Mem → Prop} (M : Mem) (x1 : Int32) (h : AX3_pass d Q 0 [lR 61, lI x1] [] M) : AM d iX3_pass [.ref 61, .int x1] M Q := AM.of2 (by decide) rfl rfl h
theorem bX3_pass_0 {d : Nat} {Q : Option Int32 → Mem → Prop} (M : Mem) (x1 : Int32) (h : ((M 61 4) = 0 → AMi d iX3_sign [.ref 61] M (fun r1 M1 => (¬ r1 = x1 → AMv d iX3_fail [.ref 61, .int 1] M1 (fun M2 => Q none M2)) ∧ (r1 = x1 → Q none (wr M1 61 3 ((M1 61 3) + 1))))) ∧ (¬ (M 61 4) = 0 → Q none M)) : AX3_pass (d + 1) Q 0 [lR 61, lI x1] [] M := by
  refine aw_aload_n dX3_pass_0 rfl rfl ?_
  refine aw_getf dX3_pass_1 fl_X3_32 (by decide) ce_61 rfl (v := .int (M 61 4)) rfl ?_
  refine aw_if_eq (tgt := 8) dX3_pass_4 (by decide) (fun z => ?_) (fun z => ?_)
  · replace h := h.1 z
    refine aw_aload_n dX3_pass_8 rfl rfl ?_
    refine aw_callV (mi := iX3_sign) (av := []) (st := []) dX3_pass_9 ml_X3_61 kX3_sign (by decide) ce_61 clX3 rfl rfl rfl (Nat.le_of_ble_eq_true rfl) (AM.mono h (fun r9 M1 h => ?_))
    obtain ⟨r1, rfl, h⟩ := h
    refine aw_iload_n dX3_pass_12 rfl rfl ?_
    refine aw_icmp_ne (tgt := 29) dX3_pass_13 (by decide) (fun z => ?_) (fun z => ?_)
    · replace h := h.1 z
      refine aw_aload_n dX3_pass_29 rfl rfl ?_
      refine aw_iconst (v := 1) dX3_pass_30 (by decide) ?_
      refine aw_callV (mi := iX3_fail) (av := [.int 1]) (st := []) dX3_pass_31 ml_X3_56 kX3_fail (by decide) ce_61 clX3 rfl rfl rfl (Nat.le_of_ble_eq_true rfl) (AM.mono h (fun r9 M2 h => ?_))
      obtain ⟨rfl, h⟩ := h
      exact aw_vret dX3_pass_34 rfl h
    · replace h := h.2 z
      refine aw_aload_n dX3_pass_16 rfl rfl ?_
      refine aw_dup dX3_pass_17 rfl ?_
      refine aw_getf dX3_pass_18 fl_X3_29 (by decide) ce_61 rfl (v := .int (M1 61 3)) rfl ?_
      refine aw_iconst (v := 1) dX3_pass_21 (by decide) ?_
      refine aw_iadd dX3_pass_22 ?_
      refine aw_putf dX3_pass_23 fp_X3_29 (by decide) ce_61 rfl rfl rfl ?_
      refine aw_goto (tgt := 34) dX3_pass_26 (by decide) ?_
      exact aw_vret dX3_pass_34 rfl h
  · replace h := h.2 z
    exact aw_vret dX3_pass_7 rfl h
abbrev AX3_isNext (d : Nat) (Q : Option Int32 → Mem → Prop) (pc : Nat) (L : List (Option Value)) (st : List Value) (M : Mem) : Prop := AW none RX3 cX3_isNext 2 (some .boolean) d Q pc L st M
theorem eX3_isNext {d : Nat} {Q : Option Int32 → Mem → Prop} {i : Nat} (M : Mem) (h : AX3_isNext d Q 0 [lR 61, lR (1000 + i)] [] M) : AM d iX3_isNext [.ref 61, .ref (1000 + i)] M Q := AM.of2 (by decide) rfl rfl h
theorem bX3_isNext_0 {d : Nat} {Q : Option Int32 → Mem → Prop} {i : Nat} (hi : i < strT.length) (M : Mem) (h : (¬ (M 61 4) = 0 → Q (some 0) M) ∧ ((M 61 4) = 0 → ((M 61 2) ≤ (M 61 3) → Q (some 0) M) ∧ (¬ (M 61 2) ≤ (M 61 3) → (vp_in (M 61 3) 200) ∧ (((ixV i (Int32.toUInt32 (M 35 (ix (M 61 3))) % 65536).toInt32) < 0 → Q (some 0) M) ∧ (¬ (ixV i (Int32.toUInt32 (M 35 (ix (M 61 3))) % 65536).toInt32) < 0 → Q (some 1) M))))) : AX3_isNext (d + 4) Q 0 [lR 61, lR (1000 + i)] [] M := by
  refine aw_aload_n dX3_isNext_0 rfl rfl ?_
  refine aw_getf dX3_isNext_1 fl_X3_32 (by decide) ce_61 rfl (v := .int (M 61 4)) rfl ?_
  refine aw_if_ne (tgt := 42) dX3_isNext_4 (by decide) (fun z => ?_) (fun z => ?_)
  · replace h := h.1 z
    refine aw_iconst (v := 0) dX3_isNext_42 (by decide) ?_
    exact aw_iret dX3_isNext_43 rfl (nar_b (by decide)) h
  · replace h := h.2 z
    refine aw_aload_n dX3_isNext_7 rfl rfl ?_
    refine aw_getf dX3_isNext_8 fl_X3_29 (by decide) ce_61 rfl (v := .int (M 61 3)) rfl ?_
    refine aw_aload_n dX3_isNext_11 rfl rfl ?_
    refine aw_getf dX3_isNext_12 fl_X3_25 (by decide) ce_61 rfl (v := .int (M 61 2)) rfl ?_
    refine aw_icmp_ge (tgt := 42) dX3_isNext_15 (by decide) (fun z => ?_) (fun z => ?_)
    · replace h := h.1 z
      refine aw_iconst (v := 0) dX3_isNext_42 (by decide) ?_
      exact aw_iret dX3_isNext_43 rfl (nar_b (by decide)) h
    · replace h := h.2 z
      refine aw_aload_n dX3_isNext_18 rfl rfl ?_
      refine aw_aload_n dX3_isNext_19 rfl rfl ?_
      refine aw_getf dX3_isNext_20 fl_X3_9 (by decide) ce_61 rfl (v := .ref 34) rfl ?_
      refine aw_getf dX3_isNext_23 fl_X3_135 (by decide) ce_34 rfl (v := .ref 35) rfl ?_
      refine aw_aload_n dX3_isNext_26 rfl rfl ?_
      refine aw_getf dX3_isNext_27 fl_X3_29 (by decide) ce_61 rfl (v := .int (M 61 3)) rfl ?_
      obtain ⟨h9, h⟩ := h
      refine aw_iald dX3_isNext_30 (by decide) ce_35 h9 ?_
      refine aw_i2c dX3_isNext_31 ?_
      refine aw_callT (i := i) hi (mi := iJ0_indexOf_0f7a4) (av := [.int (Int32.toUInt32 (M 35 (ix (M 61 3))) % 65536).toInt32]) (st := []) dX3_isNext_32 ml_X3_129 kJ0_indexOf_0f7a4 rfl rfl rfl (Nat.le_of_ble_eq_true rfl) (AM.mono (p_indexOf hi _) (fun r9 M9 e9 => ?_))
      obtain ⟨rfl, rfl⟩ := e9
      refine aw_if_lt (tgt := 42) dX3_isNext_35 (by decide) (fun z => ?_) (fun z => ?_)
      · replace h := h.1 z
        refine aw_iconst (v := 0) dX3_isNext_42 (by decide) ?_
        exact aw_iret dX3_isNext_43 rfl (nar_b (by decide)) h
      · replace h := h.2 z
        refine aw_iconst (v := 1) dX3_isNext_38 (by decide) ?_
        refine aw_goto (tgt := 43) dX3_isNext_39 (by decide) ?_
        exact aw_iret dX3_isNext_43 rfl (nar_b (by decide)) h
abbrev AX3_readNumber (d : Nat) (Q : Option Int32 → Mem → Prop) (pc : Nat) (L : List (Option Value)) (st : List Value) (M : Mem) : Prop := AW none RX3 cX3_readNumber 3 none d Q pc L st M
theorem eX3_readNumber {d : Nat} {Q : Option Int32 → Mem → Prop} (M : Mem) (h : AX3_readNumber d Q 0 [lR 61, none, none] [] M) : AM d iX3_readNumber [.ref 61] M Q := AM.of2 (by decide) rfl rfl h
theorem bX3_readNumber_0 {d : Nat} {Q : Option Int32 → Mem → Prop} (M : Mem) (h : AX3_readNumber (d + 1) Q 4 [lR 61, lI 0, lI 0] [] M) : AX3_readNumber (d + 1) Q 0 [lR 61, none, none] [] M := by
  refine aw_iconst (v := 0) dX3_readNumber_0 (by decide) ?_
  refine aw_istore_n (L2 := [lR 61, lI 0, none]) dX3_readNumber_1 rfl (by decide) rfl ?_
  refine aw_iconst (v := 0) dX3_readNumber_2 (by decide) ?_
  refine aw_istore_n (L2 := [lR 61, lI 0, lI 0]) dX3_readNumber_3 rfl (by decide) rfl ?_
  exact h
theorem bX3_readNumber_4 {d : Nat} {Q : Option Int32 → Mem → Prop} (M : Mem) (x1 x2 : Int32) (h : (5 ≤ x2 → AX3_readNumber (d + 1) Q 47 [lR 61, lI x1, none] [] M) ∧ (¬ 5 ≤ x2 → AMi d iX3_isNext [.ref 61, .ref 1003] M (fun r1 M1 => (r1 = 0 → AX3_readNumber (d + 1) Q 47 [lR 61, lI x1, none] [] M1) ∧ (¬ r1 = 0 → AMi d iX3_sign [.ref 61] M1 (fun r2 M2 => AX3_readNumber (d + 1) Q 4 [lR 61, lI (((x1 * 10) + r2) - 48), lI (x2 + 1)] [] (wr M2 61 3 ((M2 61 3) + 1))))))) : AX3_readNumber (d + 1) Q 4 [lR 61, lI x1, lI x2] [] M := by
  refine aw_iload_n dX3_readNumber_4 rfl rfl ?_
  refine aw_iconst (v := 5) dX3_readNumber_5 (by decide) ?_
  refine aw_icmp_ge (tgt := 47) dX3_readNumber_6 (by decide) (fun z => ?_) (fun z => ?_)
  · replace h := h.1 z
    exact aw_less (less_k (less_k (less_d less_nil))) h
  · replace h := h.2 z
    refine aw_aload_n dX3_readNumber_9 rfl rfl ?_
    refine aw_ldcS (i := 3) dX3_readNumber_10 rfl ?_
    refine aw_callV (mi := iX3_isNext) (av := [.ref 1003]) (st := []) dX3_readNumber_12 ml_X3_52 kX3_isNext (by decide) ce_61 clX3 rfl rfl rfl (Nat.le_of_ble_eq_true rfl) (AM.mono h (fun r9 M1 h => ?_))
    obtain ⟨r1, rfl, h⟩ := h
    refine aw_if_eq (tgt := 47) dX3_readNumber_15 (by decide) (fun z => ?_) (fun z => ?_)
    · replace h := h.1 z
      exact aw_less (less_k (less_k (less_d less_nil))) h
    · replace h := h.2 z
      refine aw_iload_n dX3_readNumber_18 rfl rfl ?_
      refine aw_bipush (v := 10) dX3_readNumber_19 (by decide) ?_
      refine aw_imul dX3_readNumber_21 ?_
      refine aw_aload_n dX3_readNumber_22 rfl rfl ?_
      refine aw_callV (mi := iX3_sign) (av := []) (st := [.int (x1 * 10)]) dX3_readNumber_23 ml_X3_61 kX3_sign (by decide) ce_61 clX3 rfl rfl rfl (Nat.le_of_ble_eq_true rfl) (AM.mono h (fun r9 M2 h => ?_))
      obtain ⟨r2, rfl, h⟩ := h
      refine aw_iadd dX3_readNumber_26 ?_
      refine aw_bipush (v := 48) dX3_readNumber_27 (by decide) ?_
      refine aw_isub dX3_readNumber_29 ?_
      refine aw_istore_n (L2 := [lR 61, lI (((x1 * 10) + r2) - 48), lI x2]) dX3_readNumber_30 rfl (by decide) rfl ?_
      refine aw_aload_n dX3_readNumber_31 rfl rfl ?_
      refine aw_dup dX3_readNumber_32 rfl ?_
      refine aw_getf dX3_readNumber_33 fl_X3_29 (by decide) ce_61 rfl (v := .int (M2 61 3)) rfl ?_
      refine aw_iconst (v := 1) dX3_readNumber_36 (by decide) ?_
      refine aw_iadd dX3_readNumber_37 ?_
      refine aw_putf dX3_readNumber_38 fp_X3_29 (by decide) ce_61 rfl rfl rfl ?_
      refine aw_iinc (y := 1) (L2 := [lR 61, lI (((x1 * 10) + r2) - 48), lI (x2 + 1)]) dX3_readNumber_41 rfl (by decide) (by decide) rfl ?_
      refine aw_goto (tgt := 4) dX3_readNumber_44 (by decide) ?_
      exact h
theorem bX3_readNumber_47 {d : Nat} {Q : Option Int32 → Mem → Prop} (M : Mem) (x1 : Int32) (h : AMi d iX3_isNext [.ref 61, .ref 1003] M (fun r1 M1 => (r1 = 0 → AX3_readNumber (d + 1) Q 61 [lR 61, lI x1, none] [] M1) ∧ (¬ r1 = 0 → AMv d iX3_fail [.ref 61, .int 2] M1 (fun M2 => AX3_readNumber (d + 1) Q 61 [lR 61, lI x1, none] [] M2)))) : AX3_readNumber (d + 1) Q 47 [lR 61, lI x1, none] [] M := by
  refine aw_aload_n dX3_readNumber_47 rfl rfl ?_
  refine aw_ldcS (i := 3) dX3_readNumber_48 rfl ?_
  refine aw_callV (mi := iX3_isNext) (av := [.ref 1003]) (st := []) dX3_readNumber_50 ml_X3_52 kX3_isNext (by decide) ce_61 clX3 rfl rfl rfl (Nat.le_of_ble_eq_true rfl) (AM.mono h (fun r9 M1 h => ?_))
  obtain ⟨r1, rfl, h⟩ := h
  refine aw_if_eq (tgt := 61) dX3_readNumber_53 (by decide) (fun z => ?_) (fun z => ?_)
  · replace h := h.1 z
    exact h
  · replace h := h.2 z
    refine aw_aload_n dX3_readNumber_56 rfl rfl ?_
    refine aw_iconst (v := 2) dX3_readNumber_57 (by decide) ?_
    refine aw_callV (mi := iX3_fail) (av := [.int 2]) (st := []) dX3_readNumber_58 ml_X3_56 kX3_fail (by decide) ce_61 clX3 rfl rfl rfl (Nat.le_of_ble_eq_true rfl) (AM.mono h (fun r9 M2 h => ?_))
    obtain ⟨rfl, h⟩ := h
    exact h
theorem bX3_readNumber_61 {d : Nat} {Q : Option Int32 → Mem → Prop} (M : Mem) (x1 : Int32) (h : AMi d iX2_addSign [.ref 53, .int 48, .int x1] M (fun r1 M1 => Q none M1)) : AX3_readNumber (d + 1) Q 61 [lR 61, lI x1, none] [] M := by
  refine aw_aload_n dX3_readNumber_61 rfl rfl ?_
  refine aw_getf dX3_readNumber_62 fl_X3_15 (by decide) ce_61 rfl (v := .ref 53) rfl ?_
  refine aw_bipush (v := 48) dX3_readNumber_65 (by decide) ?_
  refine aw_iload_n dX3_readNumber_67 rfl rfl ?_
  refine aw_callV (mi := iX2_addSign) (av := [.int 48, .int x1]) (st := []) dX3_readNumber_68 ml_X3_85 kX2_addSign (by decide) ce_53 clX2 rfl rfl rfl (Nat.le_of_ble_eq_true rfl) (AM.mono h (fun r9 M1 h => ?_))
  obtain ⟨r1, rfl, h⟩ := h
  refine aw_pop dX3_readNumber_71 rfl ?_
  exact aw_vret dX3_readNumber_72 rfl h
abbrev AX3_readFactor (d : Nat) (Q : Option Int32 → Mem → Prop) (pc : Nat) (L : List (Option Value)) (st : List Value) (M : Mem) : Prop := AW none RX3 cX3_readFactor 2 none d Q pc L st M
theorem eX3_readFactor {d : Nat} {Q : Option Int32 → Mem → Prop} (M : Mem) (x1 : Int32) (h : AX3_readFactor d Q 0 [lR 61, lI x1] [] M) : AM d iX3_readFactor [.ref 61, .int x1] M Q := AM.of2 (by decide) rfl rfl h
theorem bX3_readFactor_0 {d : Nat} {Q : Option Int32 → Mem → Prop} (M : Mem) (x1 : Int32) (h : ((M 61 4) = 0 → AMi (d + 3) iX3_isNext [.ref 61, .ref 1002] M (fun r1 M1 => (r1 = 0 → AMi (d + 3) iX3_isNext [.ref 61, .ref 1003] M1 (fun r2 M2 => (r2 = 0 → AMi (d + 3) iX3_isNext [.ref 61, .ref 1004] M2 (fun r3 M3 => (r3 = 0 → AMv (d + 3) iX3_fail [.ref 61, .int 1] M3 (fun M4 => Q none M4)) ∧ (¬ r3 = 0 → AMi (d + 3) iX3_sign [.ref 61] M3 (fun r5 M5 => AMi (d + 3) iX2_addSign [.ref 53, .int 97, .int (ixV 4 (Int32.toUInt32 r5 % 65536).toInt32)] M5 (fun r6 M6 => Q none (wr M6 61 3 ((M6 61 3) + 1))))))) ∧ (¬ r2 = 0 → AMv (d + 3) iX3_readNumber [.ref 61] M2 (fun M7 => Q none M7)))) ∧ (¬ r1 = 0 → AMv (d + 3) iX3_opens [.ref 61, .int x1] M1 (fun M8 => (¬ (M8 61 4) = 0 → Q none M8) ∧ ((M8 61 4) = 0 → AMv (d + 3) iX3_readSum [.ref 61, .int (x1 + 1)] M8 (fun M9 => AMv (d + 3) iX3_pass [.ref 61, .int 93] M9 (fun M10 => Q none M10))))))) ∧ (¬ (M 61 4) = 0 → Q none M)) : AX3_readFactor (d + 4) Q 0 [lR 61, lI x1] [] M := by
  refine aw_aload_n dX3_readFactor_0 rfl rfl ?_
  refine aw_getf dX3_readFactor_1 fl_X3_32 (by decide) ce_61 rfl (v := .int (M 61 4)) rfl ?_
  refine aw_if_eq (tgt := 8) dX3_readFactor_4 (by decide) (fun z => ?_) (fun z => ?_)
  · replace h := h.1 z
    refine aw_aload_n dX3_readFactor_8 rfl rfl ?_
    refine aw_ldcS (i := 2) dX3_readFactor_9 rfl ?_
    refine aw_callV (mi := iX3_isNext) (av := [.ref 1002]) (st := []) dX3_readFactor_11 ml_X3_52 kX3_isNext (by decide) ce_61 clX3 rfl rfl rfl (Nat.le_of_ble_eq_true rfl) (AM.mono h (fun r9 M1 h => ?_))
    obtain ⟨r1, rfl, h⟩ := h
    refine aw_if_eq (tgt := 45) dX3_readFactor_14 (by decide) (fun z => ?_) (fun z => ?_)
    · replace h := h.1 z
      refine aw_aload_n dX3_readFactor_45 rfl rfl ?_
      refine aw_ldcS (i := 3) dX3_readFactor_46 rfl ?_
      refine aw_callV (mi := iX3_isNext) (av := [.ref 1003]) (st := []) dX3_readFactor_48 ml_X3_52 kX3_isNext (by decide) ce_61 clX3 rfl rfl rfl (Nat.le_of_ble_eq_true rfl) (AM.mono h (fun r9 M2 h => ?_))
      obtain ⟨r2, rfl, h⟩ := h
      refine aw_if_eq (tgt := 61) dX3_readFactor_51 (by decide) (fun z => ?_) (fun z => ?_)
      · replace h := h.1 z
        refine aw_aload_n dX3_readFactor_61 rfl rfl ?_
        refine aw_ldcS (i := 4) dX3_readFactor_62 rfl ?_
        refine aw_callV (mi := iX3_isNext) (av := [.ref 1004]) (st := []) dX3_readFactor_64 ml_X3_52 kX3_isNext (by decide) ce_61 clX3 rfl rfl rfl (Nat.le_of_ble_eq_true rfl) (AM.mono h (fun r9 M3 h => ?_))
        obtain ⟨r3, rfl, h⟩ := h
        refine aw_if_eq (tgt := 103) dX3_readFactor_67 (by decide) (fun z => ?_) (fun z => ?_)
        · replace h := h.1 z
          refine aw_aload_n dX3_readFactor_103 rfl rfl ?_
          refine aw_iconst (v := 1) dX3_readFactor_104 (by decide) ?_
          refine aw_callV (mi := iX3_fail) (av := [.int 1]) (st := []) dX3_readFactor_105 ml_X3_56 kX3_fail (by decide) ce_61 clX3 rfl rfl rfl (Nat.le_of_ble_eq_true rfl) (AM.mono h (fun r9 M4 h => ?_))
          obtain ⟨rfl, h⟩ := h
          exact aw_vret dX3_readFactor_108 rfl h
        · replace h := h.2 z
          refine aw_aload_n dX3_readFactor_70 rfl rfl ?_
          refine aw_getf dX3_readFactor_71 fl_X3_15 (by decide) ce_61 rfl (v := .ref 53) rfl ?_
          refine aw_bipush (v := 97) dX3_readFactor_74 (by decide) ?_
          refine aw_ldcS (i := 4) dX3_readFactor_76 rfl ?_
          refine aw_aload_n dX3_readFactor_78 rfl rfl ?_
          refine aw_callV (mi := iX3_sign) (av := []) (st := [.ref 1004, .int 97, .ref 53]) dX3_readFactor_79 ml_X3_61 kX3_sign (by decide) ce_61 clX3 rfl rfl rfl (Nat.le_of_ble_eq_true rfl) (AM.mono h (fun r9 M5 h => ?_))
          obtain ⟨r5, rfl, h⟩ := h
          refine aw_i2c dX3_readFactor_82 ?_
          refine aw_callT (i := 4) (by decide) (mi := iJ0_indexOf_0f7a4) (av := [.int (Int32.toUInt32 r5 % 65536).toInt32]) (st := [.int 97, .ref 53]) dX3_readFactor_83 ml_X3_129 kJ0_indexOf_0f7a4 rfl rfl rfl (Nat.le_of_ble_eq_true rfl) (AM.mono (p_indexOf (i := 4) (by decide) _) (fun r9 M9 e9 => ?_))
          obtain ⟨rfl, rfl⟩ := e9
          refine aw_callV (mi := iX2_addSign) (av := [.int 97, .int (ixV 4 (Int32.toUInt32 r5 % 65536).toInt32)]) (st := []) dX3_readFactor_86 ml_X3_85 kX2_addSign (by decide) ce_53 clX2 rfl rfl rfl (Nat.le_of_ble_eq_true rfl) (AM.mono h (fun r9 M6 h => ?_))
          obtain ⟨r6, rfl, h⟩ := h
          refine aw_pop dX3_readFactor_89 rfl ?_
          refine aw_aload_n dX3_readFactor_90 rfl rfl ?_
          refine aw_dup dX3_readFactor_91 rfl ?_
          refine aw_getf dX3_readFactor_92 fl_X3_29 (by decide) ce_61 rfl (v := .int (M6 61 3)) rfl ?_
          refine aw_iconst (v := 1) dX3_readFactor_95 (by decide) ?_
          refine aw_iadd dX3_readFactor_96 ?_
          refine aw_putf dX3_readFactor_97 fp_X3_29 (by decide) ce_61 rfl rfl rfl ?_
          refine aw_goto (tgt := 108) dX3_readFactor_100 (by decide) ?_
          exact aw_vret dX3_readFactor_108 rfl h
      · replace h := h.2 z
        refine aw_aload_n dX3_readFactor_54 rfl rfl ?_
        refine aw_callV (mi := iX3_readNumber) (av := []) (st := []) dX3_readFactor_55 ml_X3_122 kX3_readNumber (by decide) ce_61 clX3 rfl rfl rfl (Nat.le_of_ble_eq_true rfl) (AM.mono h (fun r9 M7 h => ?_))
        obtain ⟨rfl, h⟩ := h
        refine aw_goto (tgt := 108) dX3_readFactor_58 (by decide) ?_
        exact aw_vret dX3_readFactor_108 rfl h
    · replace h := h.2 z
      refine aw_aload_n dX3_readFactor_17 rfl rfl ?_
      refine aw_iload_n dX3_readFactor_18 rfl rfl ?_
      refine aw_callV (mi := iX3_opens) (av := [.int x1]) (st := []) dX3_readFactor_19 ml_X3_98 kX3_opens (by decide) ce_61 clX3 rfl rfl rfl (Nat.le_of_ble_eq_true rfl) (AM.mono h (fun r9 M8 h => ?_))
      obtain ⟨rfl, h⟩ := h
      refine aw_aload_n dX3_readFactor_22 rfl rfl ?_
      refine aw_getf dX3_readFactor_23 fl_X3_32 (by decide) ce_61 rfl (v := .int (M8 61 4)) rfl ?_
      refine aw_if_ne (tgt := 108) dX3_readFactor_26 (by decide) (fun z => ?_) (fun z => ?_)
      · replace h := h.1 z
        exact aw_vret dX3_readFactor_108 rfl h
      · replace h := h.2 z
        refine aw_aload_n dX3_readFactor_29 rfl rfl ?_
        refine aw_iload_n dX3_readFactor_30 rfl rfl ?_
        refine aw_iconst (v := 1) dX3_readFactor_31 (by decide) ?_
        refine aw_iadd dX3_readFactor_32 ?_
        refine aw_callV (mi := iX3_readSum) (av := [.int (x1 + 1)]) (st := []) dX3_readFactor_33 ml_X3_68 kX3_readSum (by decide) ce_61 clX3 rfl rfl rfl (Nat.le_of_ble_eq_true rfl) (AM.mono h (fun r9 M9 h => ?_))
        obtain ⟨rfl, h⟩ := h
        refine aw_aload_n dX3_readFactor_36 rfl rfl ?_
        refine aw_bipush (v := 93) dX3_readFactor_37 (by decide) ?_
        refine aw_callV (mi := iX3_pass) (av := [.int 93]) (st := []) dX3_readFactor_39 ml_X3_43 kX3_pass (by decide) ce_61 clX3 rfl rfl rfl (Nat.le_of_ble_eq_true rfl) (AM.mono h (fun r9 M10 h => ?_))
        obtain ⟨rfl, h⟩ := h
        refine aw_goto (tgt := 108) dX3_readFactor_42 (by decide) ?_
        exact aw_vret dX3_readFactor_108 rfl h
  · replace h := h.2 z
    exact aw_vret dX3_readFactor_7 rfl h
abbrev AX3_readTerm (d : Nat) (Q : Option Int32 → Mem → Prop) (pc : Nat) (L : List (Option Value)) (st : List Value) (M : Mem) : Prop := AW none RX3 cX3_readTerm 4 none d Q pc L st M
theorem eX3_readTerm {d : Nat} {Q : Option Int32 → Mem → Prop} (M : Mem) (x1 : Int32) (h : AX3_readTerm d Q 0 [lR 61, lI x1, none, none] [] M) : AM d iX3_readTerm [.ref 61, .int x1] M Q := AM.of2 (by decide) rfl rfl h
theorem bX3_readTerm_0 {d : Nat} {Q : Option Int32 → Mem → Prop} (M : Mem) (x1 : Int32) (h : AMv d iX3_readFactor [.ref 61, .int x1] M (fun M1 => AX3_readTerm (d + 1) Q 7 [lR 61, lI x1, lI 0, none] [] M1)) : AX3_readTerm (d + 1) Q 0 [lR 61, lI x1, none, none] [] M := by
  refine aw_aload_n dX3_readTerm_0 rfl rfl ?_
  refine aw_iload_n dX3_readTerm_1 rfl rfl ?_
  refine aw_callV (mi := iX3_readFactor) (av := [.int x1]) (st := []) dX3_readTerm_2 ml_X3_113 kX3_readFactor (by decide) ce_61 clX3 rfl rfl rfl (Nat.le_of_ble_eq_true rfl) (AM.mono h (fun r9 M1 h => ?_))
  obtain ⟨rfl, h⟩ := h
  refine aw_iconst (v := 0) dX3_readTerm_5 (by decide) ?_
  refine aw_istore_n (L2 := [lR 61, lI x1, lI 0, none]) dX3_readTerm_6 rfl (by decide) rfl ?_
  exact h
theorem bX3_readTerm_7 {d : Nat} {Q : Option Int32 → Mem → Prop} (M : Mem) (x1 x2 : Int32) (h : (160 ≤ x2 → Q none M) ∧ (¬ 160 ≤ x2 → AMi d iX3_isNext [.ref 61, .ref 1005] M (fun r1 M1 => (r1 = 0 → Q none M1) ∧ (¬ r1 = 0 → AMi d iX3_sign [.ref 61] M1 (fun r2 M2 => AMv d iX3_readFactor [.ref 61, .int x1] (wr M2 61 3 ((M2 61 3) + 1)) (fun M3 => AMi d iX2_addSign [.ref 53, .int r2, .int 0] M3 (fun r4 M4 => AX3_readTerm (d + 1) Q 7 [lR 61, lI x1, lI (x2 + 1), none] [] M4))))))) : AX3_readTerm (d + 1) Q 7 [lR 61, lI x1, lI x2, none] [] M := by
  refine aw_iload_n dX3_readTerm_7 rfl rfl ?_
  refine aw_sipush (v := 160) dX3_readTerm_8 (by decide) ?_
  refine aw_icmp_ge (tgt := 59) dX3_readTerm_11 (by decide) (fun z => ?_) (fun z => ?_)
  · replace h := h.1 z
    exact aw_vret dX3_readTerm_59 rfl h
  · replace h := h.2 z
    refine aw_aload_n dX3_readTerm_14 rfl rfl ?_
    refine aw_ldcS (i := 5) dX3_readTerm_15 rfl ?_
    refine aw_callV (mi := iX3_isNext) (av := [.ref 1005]) (st := []) dX3_readTerm_17 ml_X3_52 kX3_isNext (by decide) ce_61 clX3 rfl rfl rfl (Nat.le_of_ble_eq_true rfl) (AM.mono h (fun r9 M1 h => ?_))
    obtain ⟨r1, rfl, h⟩ := h
    refine aw_if_eq (tgt := 59) dX3_readTerm_20 (by decide) (fun z => ?_) (fun z => ?_)
    · replace h := h.1 z
      exact aw_vret dX3_readTerm_59 rfl h
    · replace h := h.2 z
      refine aw_aload_n dX3_readTerm_23 rfl rfl ?_
      refine aw_callV (mi := iX3_sign) (av := []) (st := []) dX3_readTerm_24 ml_X3_61 kX3_sign (by decide) ce_61 clX3 rfl rfl rfl (Nat.le_of_ble_eq_true rfl) (AM.mono h (fun r9 M2 h => ?_))
      obtain ⟨r2, rfl, h⟩ := h
      refine aw_istore_n (L2 := [lR 61, lI x1, lI x2, lI r2]) dX3_readTerm_27 rfl (by decide) rfl ?_
      refine aw_aload_n dX3_readTerm_28 rfl rfl ?_
      refine aw_dup dX3_readTerm_29 rfl ?_
      refine aw_getf dX3_readTerm_30 fl_X3_29 (by decide) ce_61 rfl (v := .int (M2 61 3)) rfl ?_
      refine aw_iconst (v := 1) dX3_readTerm_33 (by decide) ?_
      refine aw_iadd dX3_readTerm_34 ?_
      refine aw_putf dX3_readTerm_35 fp_X3_29 (by decide) ce_61 rfl rfl rfl ?_
      refine aw_aload_n dX3_readTerm_38 rfl rfl ?_
      refine aw_iload_n dX3_readTerm_39 rfl rfl ?_
      refine aw_callV (mi := iX3_readFactor) (av := [.int x1]) (st := []) dX3_readTerm_40 ml_X3_113 kX3_readFactor (by decide) ce_61 clX3 rfl rfl rfl (Nat.le_of_ble_eq_true rfl) (AM.mono h (fun r9 M3 h => ?_))
      obtain ⟨rfl, h⟩ := h
      refine aw_aload_n dX3_readTerm_43 rfl rfl ?_
      refine aw_getf dX3_readTerm_44 fl_X3_15 (by decide) ce_61 rfl (v := .ref 53) rfl ?_
      refine aw_iload_n dX3_readTerm_47 rfl rfl ?_
      refine aw_iconst (v := 0) dX3_readTerm_48 (by decide) ?_
      refine aw_callV (mi := iX2_addSign) (av := [.int r2, .int 0]) (st := []) dX3_readTerm_49 ml_X3_85 kX2_addSign (by decide) ce_53 clX2 rfl rfl rfl (Nat.le_of_ble_eq_true rfl) (AM.mono h (fun r9 M4 h => ?_))
      obtain ⟨r4, rfl, h⟩ := h
      refine aw_pop dX3_readTerm_52 rfl ?_
      refine aw_iinc (y := 1) (L2 := [lR 61, lI x1, lI (x2 + 1), lI r2]) dX3_readTerm_53 rfl (by decide) (by decide) rfl ?_
      refine aw_goto (tgt := 7) dX3_readTerm_56 (by decide) ?_
      exact aw_less (less_k (less_k (less_k (less_d less_nil)))) h
abbrev AX3_readSum (d : Nat) (Q : Option Int32 → Mem → Prop) (pc : Nat) (L : List (Option Value)) (st : List Value) (M : Mem) : Prop := AW none RX3 cX3_readSum 4 none d Q pc L st M
theorem eX3_readSum {d : Nat} {Q : Option Int32 → Mem → Prop} (M : Mem) (x1 : Int32) (h : AX3_readSum d Q 0 [lR 61, lI x1, none, none] [] M) : AM d iX3_readSum [.ref 61, .int x1] M Q := AM.of2 (by decide) rfl rfl h
theorem bX3_readSum_0 {d : Nat} {Q : Option Int32 → Mem → Prop} (M : Mem) (x1 : Int32) (h : AMv d iX3_readTerm [.ref 61, .int x1] M (fun M1 => AX3_readSum (d + 1) Q 7 [lR 61, lI x1, lI 0, none] [] M1)) : AX3_readSum (d + 1) Q 0 [lR 61, lI x1, none, none] [] M := by
  refine aw_aload_n dX3_readSum_0 rfl rfl ?_
  refine aw_iload_n dX3_readSum_1 rfl rfl ?_
  refine aw_callV (mi := iX3_readTerm) (av := [.int x1]) (st := []) dX3_readSum_2 ml_X3_108 kX3_readTerm (by decide) ce_61 clX3 rfl rfl rfl (Nat.le_of_ble_eq_true rfl) (AM.mono h (fun r9 M1 h => ?_))
  obtain ⟨rfl, h⟩ := h
  refine aw_iconst (v := 0) dX3_readSum_5 (by decide) ?_
  refine aw_istore_n (L2 := [lR 61, lI x1, lI 0, none]) dX3_readSum_6 rfl (by decide) rfl ?_
  exact h
theorem bX3_readSum_7 {d : Nat} {Q : Option Int32 → Mem → Prop} (M : Mem) (x1 x2 : Int32) (h : (160 ≤ x2 → Q none M) ∧ (¬ 160 ≤ x2 → AMi d iX3_isNext [.ref 61, .ref 1006] M (fun r1 M1 => (r1 = 0 → Q none M1) ∧ (¬ r1 = 0 → AMi d iX3_sign [.ref 61] M1 (fun r2 M2 => AMv d iX3_readTerm [.ref 61, .int x1] (wr M2 61 3 ((M2 61 3) + 1)) (fun M3 => AMi d iX2_addSign [.ref 53, .int r2, .int 0] M3 (fun r4 M4 => AX3_readSum (d + 1) Q 7 [lR 61, lI x1, lI (x2 + 1), none] [] M4))))))) : AX3_readSum (d + 1) Q 7 [lR 61, lI x1, lI x2, none] [] M := by
  refine aw_iload_n dX3_readSum_7 rfl rfl ?_
  refine aw_sipush (v := 160) dX3_readSum_8 (by decide) ?_
  refine aw_icmp_ge (tgt := 59) dX3_readSum_11 (by decide) (fun z => ?_) (fun z => ?_)
  · replace h := h.1 z
    exact aw_vret dX3_readSum_59 rfl h
  · replace h := h.2 z
    refine aw_aload_n dX3_readSum_14 rfl rfl ?_
    refine aw_ldcS (i := 6) dX3_readSum_15 rfl ?_
    refine aw_callV (mi := iX3_isNext) (av := [.ref 1006]) (st := []) dX3_readSum_17 ml_X3_52 kX3_isNext (by decide) ce_61 clX3 rfl rfl rfl (Nat.le_of_ble_eq_true rfl) (AM.mono h (fun r9 M1 h => ?_))
    obtain ⟨r1, rfl, h⟩ := h
    refine aw_if_eq (tgt := 59) dX3_readSum_20 (by decide) (fun z => ?_) (fun z => ?_)
    · replace h := h.1 z
      exact aw_vret dX3_readSum_59 rfl h
    · replace h := h.2 z
      refine aw_aload_n dX3_readSum_23 rfl rfl ?_
      refine aw_callV (mi := iX3_sign) (av := []) (st := []) dX3_readSum_24 ml_X3_61 kX3_sign (by decide) ce_61 clX3 rfl rfl rfl (Nat.le_of_ble_eq_true rfl) (AM.mono h (fun r9 M2 h => ?_))
      obtain ⟨r2, rfl, h⟩ := h
      refine aw_istore_n (L2 := [lR 61, lI x1, lI x2, lI r2]) dX3_readSum_27 rfl (by decide) rfl ?_
      refine aw_aload_n dX3_readSum_28 rfl rfl ?_
      refine aw_dup dX3_readSum_29 rfl ?_
      refine aw_getf dX3_readSum_30 fl_X3_29 (by decide) ce_61 rfl (v := .int (M2 61 3)) rfl ?_
      refine aw_iconst (v := 1) dX3_readSum_33 (by decide) ?_
      refine aw_iadd dX3_readSum_34 ?_
      refine aw_putf dX3_readSum_35 fp_X3_29 (by decide) ce_61 rfl rfl rfl ?_
      refine aw_aload_n dX3_readSum_38 rfl rfl ?_
      refine aw_iload_n dX3_readSum_39 rfl rfl ?_
      refine aw_callV (mi := iX3_readTerm) (av := [.int x1]) (st := []) dX3_readSum_40 ml_X3_108 kX3_readTerm (by decide) ce_61 clX3 rfl rfl rfl (Nat.le_of_ble_eq_true rfl) (AM.mono h (fun r9 M3 h => ?_))
      obtain ⟨rfl, h⟩ := h
      refine aw_aload_n dX3_readSum_43 rfl rfl ?_
      refine aw_getf dX3_readSum_44 fl_X3_15 (by decide) ce_61 rfl (v := .ref 53) rfl ?_
      refine aw_iload_n dX3_readSum_47 rfl rfl ?_
      refine aw_iconst (v := 0) dX3_readSum_48 (by decide) ?_
      refine aw_callV (mi := iX2_addSign) (av := [.int r2, .int 0]) (st := []) dX3_readSum_49 ml_X3_85 kX2_addSign (by decide) ce_53 clX2 rfl rfl rfl (Nat.le_of_ble_eq_true rfl) (AM.mono h (fun r9 M4 h => ?_))
      obtain ⟨r4, rfl, h⟩ := h
      refine aw_pop dX3_readSum_52 rfl ?_
      refine aw_iinc (y := 1) (L2 := [lR 61, lI x1, lI (x2 + 1), lI r2]) dX3_readSum_53 rfl (by decide) (by decide) rfl ?_
      refine aw_goto (tgt := 7) dX3_readSum_56 (by decide) ?_
      exact aw_less (less_k (less_k (less_k (less_d less_nil)))) h
abbrev AX3_readComparison (d : Nat) (Q : Option Int32 → Mem → Prop) (pc : Nat) (L : List (Option Value)) (st : List Value) (M : Mem) : Prop := AW none RX3 cX3_readComparison 3 none d Q pc L st M
theorem eX3_readComparison {d : Nat} {Q : Option Int32 → Mem → Prop} (M : Mem) (x1 : Int32) (h : AX3_readComparison d Q 0 [lR 61, lI x1, none] [] M) : AM d iX3_readComparison [.ref 61, .int x1] M Q := AM.of2 (by decide) rfl rfl h
theorem bX3_readComparison_0 {d : Nat} {Q : Option Int32 → Mem → Prop} (M : Mem) (x1 : Int32) (h : AMv d iX3_readSum [.ref 61, .int x1] M (fun M1 => AMi d iX3_sign [.ref 61] M1 (fun r2 M2 => (¬ (M2 61 4) = 0 → AX3_readComparison (d + 1) Q 31 [lR 61, lI x1, lI r2] [] M2) ∧ ((M2 61 4) = 0 → AMi d iX3_isNext [.ref 61, .ref 1009] M2 (fun r3 M3 => (¬ r3 = 0 → AX3_readComparison (d + 1) Q 31 [lR 61, lI x1, lI r2] [] M3) ∧ (r3 = 0 → AMv d iX3_fail [.ref 61, .int 1] M3 (fun M4 => AX3_readComparison (d + 1) Q 31 [lR 61, lI x1, lI r2] [] M4))))))) : AX3_readComparison (d + 1) Q 0 [lR 61, lI x1, none] [] M := by
  refine aw_aload_n dX3_readComparison_0 rfl rfl ?_
  refine aw_iload_n dX3_readComparison_1 rfl rfl ?_
  refine aw_callV (mi := iX3_readSum) (av := [.int x1]) (st := []) dX3_readComparison_2 ml_X3_68 kX3_readSum (by decide) ce_61 clX3 rfl rfl rfl (Nat.le_of_ble_eq_true rfl) (AM.mono h (fun r9 M1 h => ?_))
  obtain ⟨rfl, h⟩ := h
  refine aw_aload_n dX3_readComparison_5 rfl rfl ?_
  refine aw_callV (mi := iX3_sign) (av := []) (st := []) dX3_readComparison_6 ml_X3_61 kX3_sign (by decide) ce_61 clX3 rfl rfl rfl (Nat.le_of_ble_eq_true rfl) (AM.mono h (fun r9 M2 h => ?_))
  obtain ⟨r2, rfl, h⟩ := h
  refine aw_istore_n (L2 := [lR 61, lI x1, lI r2]) dX3_readComparison_9 rfl (by decide) rfl ?_
  refine aw_aload_n dX3_readComparison_10 rfl rfl ?_
  refine aw_getf dX3_readComparison_11 fl_X3_32 (by decide) ce_61 rfl (v := .int (M2 61 4)) rfl ?_
  refine aw_if_ne (tgt := 31) dX3_readComparison_14 (by decide) (fun z => ?_) (fun z => ?_)
  · replace h := h.1 z
    exact h
  · replace h := h.2 z
    refine aw_aload_n dX3_readComparison_17 rfl rfl ?_
    refine aw_ldcS (i := 9) dX3_readComparison_18 rfl ?_
    refine aw_callV (mi := iX3_isNext) (av := [.ref 1009]) (st := []) dX3_readComparison_20 ml_X3_52 kX3_isNext (by decide) ce_61 clX3 rfl rfl rfl (Nat.le_of_ble_eq_true rfl) (AM.mono h (fun r9 M3 h => ?_))
    obtain ⟨r3, rfl, h⟩ := h
    refine aw_if_ne (tgt := 31) dX3_readComparison_23 (by decide) (fun z => ?_) (fun z => ?_)
    · replace h := h.1 z
      exact h
    · replace h := h.2 z
      refine aw_aload_n dX3_readComparison_26 rfl rfl ?_
      refine aw_iconst (v := 1) dX3_readComparison_27 (by decide) ?_
      refine aw_callV (mi := iX3_fail) (av := [.int 1]) (st := []) dX3_readComparison_28 ml_X3_56 kX3_fail (by decide) ce_61 clX3 rfl rfl rfl (Nat.le_of_ble_eq_true rfl) (AM.mono h (fun r9 M4 h => ?_))
      obtain ⟨rfl, h⟩ := h
      exact h
theorem bX3_readComparison_31 {d : Nat} {Q : Option Int32 → Mem → Prop} (M : Mem) (x1 x2 : Int32) (h : (¬ (M 61 4) = 0 → Q none M) ∧ ((M 61 4) = 0 → AMv d iX3_readSum [.ref 61, .int x1] (wr M 61 3 ((M 61 3) + 1)) (fun M1 => AMi d iX2_addSign [.ref 53, .int x2, .int 0] M1 (fun r2 M2 => Q none M2)))) : AX3_readComparison (d + 1) Q 31 [lR 61, lI x1, lI x2] [] M := by
  refine aw_aload_n dX3_readComparison_31 rfl rfl ?_
  refine aw_getf dX3_readComparison_32 fl_X3_32 (by decide) ce_61 rfl (v := .int (M 61 4)) rfl ?_
  refine aw_if_ne (tgt := 63) dX3_readComparison_35 (by decide) (fun z => ?_) (fun z => ?_)
  · replace h := h.1 z
    exact aw_vret dX3_readComparison_63 rfl h
  · replace h := h.2 z
    refine aw_aload_n dX3_readComparison_38 rfl rfl ?_
    refine aw_dup dX3_readComparison_39 rfl ?_
    refine aw_getf dX3_readComparison_40 fl_X3_29 (by decide) ce_61 rfl (v := .int (M 61 3)) rfl ?_
    refine aw_iconst (v := 1) dX3_readComparison_43 (by decide) ?_
    refine aw_iadd dX3_readComparison_44 ?_
    refine aw_putf dX3_readComparison_45 fp_X3_29 (by decide) ce_61 rfl rfl rfl ?_
    refine aw_aload_n dX3_readComparison_48 rfl rfl ?_
    refine aw_iload_n dX3_readComparison_49 rfl rfl ?_
    refine aw_callV (mi := iX3_readSum) (av := [.int x1]) (st := []) dX3_readComparison_50 ml_X3_68 kX3_readSum (by decide) ce_61 clX3 rfl rfl rfl (Nat.le_of_ble_eq_true rfl) (AM.mono h (fun r9 M1 h => ?_))
    obtain ⟨rfl, h⟩ := h
    refine aw_aload_n dX3_readComparison_53 rfl rfl ?_
    refine aw_getf dX3_readComparison_54 fl_X3_15 (by decide) ce_61 rfl (v := .ref 53) rfl ?_
    refine aw_iload_n dX3_readComparison_57 rfl rfl ?_
    refine aw_iconst (v := 0) dX3_readComparison_58 (by decide) ?_
    refine aw_callV (mi := iX2_addSign) (av := [.int x2, .int 0]) (st := []) dX3_readComparison_59 ml_X3_85 kX2_addSign (by decide) ce_53 clX2 rfl rfl rfl (Nat.le_of_ble_eq_true rfl) (AM.mono h (fun r9 M2 h => ?_))
    obtain ⟨r2, rfl, h⟩ := h
    refine aw_pop dX3_readComparison_62 rfl ?_
    exact aw_vret dX3_readComparison_63 rfl h
abbrev AX3_readPiece (d : Nat) (Q : Option Int32 → Mem → Prop) (pc : Nat) (L : List (Option Value)) (st : List Value) (M : Mem) : Prop := AW none RX3 cX3_readPiece 2 none d Q pc L st M
theorem eX3_readPiece {d : Nat} {Q : Option Int32 → Mem → Prop} (M : Mem) (x1 : Int32) (h : AX3_readPiece d Q 0 [lR 61, lI x1] [] M) : AM d iX3_readPiece [.ref 61, .int x1] M Q := AM.of2 (by decide) rfl rfl h
theorem bX3_readPiece_0 {d : Nat} {Q : Option Int32 → Mem → Prop} (M : Mem) (x1 : Int32) (h : ((M 61 4) = 0 → AMi d iX3_isNext [.ref 61, .ref 1007] M (fun r1 M1 => (r1 = 0 → AMi d iX3_isNext [.ref 61, .ref 1008] M1 (fun r2 M2 => (r2 = 0 → AMv d iX3_readComparison [.ref 61, .int x1] M2 (fun M3 => Q none M3)) ∧ (¬ r2 = 0 → AMv d iX3_opens [.ref 61, .int x1] M2 (fun M4 => (¬ (M4 61 4) = 0 → Q none M4) ∧ ((M4 61 4) = 0 → AMv d iX3_readChoice [.ref 61, .int (x1 + 1)] M4 (fun M5 => AMv d iX3_pass [.ref 61, .int 41] M5 (fun M6 => Q none M6))))))) ∧ (¬ r1 = 0 → AMv d iX3_opens [.ref 61, .int x1] M1 (fun M7 => (¬ (M7 61 4) = 0 → Q none M7) ∧ ((M7 61 4) = 0 → AMv d iX3_readPiece [.ref 61, .int (x1 + 1)] M7 (fun M8 => AMi d iX2_addSign [.ref 53, .int 33, .int 0] M8 (fun r9 M9 => Q none M9))))))) ∧ (¬ (M 61 4) = 0 → Q none M)) : AX3_readPiece (d + 1) Q 0 [lR 61, lI x1] [] M := by
  refine aw_aload_n dX3_readPiece_0 rfl rfl ?_
  refine aw_getf dX3_readPiece_1 fl_X3_32 (by decide) ce_61 rfl (v := .int (M 61 4)) rfl ?_
  refine aw_if_eq (tgt := 8) dX3_readPiece_4 (by decide) (fun z => ?_) (fun z => ?_)
  · replace h := h.1 z
    refine aw_aload_n dX3_readPiece_8 rfl rfl ?_
    refine aw_ldcS (i := 7) dX3_readPiece_9 rfl ?_
    refine aw_callV (mi := iX3_isNext) (av := [.ref 1007]) (st := []) dX3_readPiece_11 ml_X3_52 kX3_isNext (by decide) ce_61 clX3 rfl rfl rfl (Nat.le_of_ble_eq_true rfl) (AM.mono h (fun r9 M1 h => ?_))
    obtain ⟨r1, rfl, h⟩ := h
    refine aw_if_eq (tgt := 50) dX3_readPiece_14 (by decide) (fun z => ?_) (fun z => ?_)
    · replace h := h.1 z
      refine aw_aload_n dX3_readPiece_50 rfl rfl ?_
      refine aw_ldcS (i := 8) dX3_readPiece_51 rfl ?_
      refine aw_callV (mi := iX3_isNext) (av := [.ref 1008]) (st := []) dX3_readPiece_53 ml_X3_52 kX3_isNext (by decide) ce_61 clX3 rfl rfl rfl (Nat.le_of_ble_eq_true rfl) (AM.mono h (fun r9 M2 h => ?_))
      obtain ⟨r2, rfl, h⟩ := h
      refine aw_if_eq (tgt := 87) dX3_readPiece_56 (by decide) (fun z => ?_) (fun z => ?_)
      · replace h := h.1 z
        refine aw_aload_n dX3_readPiece_87 rfl rfl ?_
        refine aw_iload_n dX3_readPiece_88 rfl rfl ?_
        refine aw_callV (mi := iX3_readComparison) (av := [.int x1]) (st := []) dX3_readPiece_89 ml_X3_103 kX3_readComparison (by decide) ce_61 clX3 rfl rfl rfl (Nat.le_of_ble_eq_true rfl) (AM.mono h (fun r9 M3 h => ?_))
        obtain ⟨rfl, h⟩ := h
        exact aw_vret dX3_readPiece_92 rfl h
      · replace h := h.2 z
        refine aw_aload_n dX3_readPiece_59 rfl rfl ?_
        refine aw_iload_n dX3_readPiece_60 rfl rfl ?_
        refine aw_callV (mi := iX3_opens) (av := [.int x1]) (st := []) dX3_readPiece_61 ml_X3_98 kX3_opens (by decide) ce_61 clX3 rfl rfl rfl (Nat.le_of_ble_eq_true rfl) (AM.mono h (fun r9 M4 h => ?_))
        obtain ⟨rfl, h⟩ := h
        refine aw_aload_n dX3_readPiece_64 rfl rfl ?_
        refine aw_getf dX3_readPiece_65 fl_X3_32 (by decide) ce_61 rfl (v := .int (M4 61 4)) rfl ?_
        refine aw_if_ne (tgt := 92) dX3_readPiece_68 (by decide) (fun z => ?_) (fun z => ?_)
        · replace h := h.1 z
          exact aw_vret dX3_readPiece_92 rfl h
        · replace h := h.2 z
          refine aw_aload_n dX3_readPiece_71 rfl rfl ?_
          refine aw_iload_n dX3_readPiece_72 rfl rfl ?_
          refine aw_iconst (v := 1) dX3_readPiece_73 (by decide) ?_
          refine aw_iadd dX3_readPiece_74 ?_
          refine aw_callV (mi := iX3_readChoice) (av := [.int (x1 + 1)]) (st := []) dX3_readPiece_75 ml_X3_74 kX3_readChoice (by decide) ce_61 clX3 rfl rfl rfl (Nat.le_of_ble_eq_true rfl) (AM.mono h (fun r9 M5 h => ?_))
          obtain ⟨rfl, h⟩ := h
          refine aw_aload_n dX3_readPiece_78 rfl rfl ?_
          refine aw_bipush (v := 41) dX3_readPiece_79 (by decide) ?_
          refine aw_callV (mi := iX3_pass) (av := [.int 41]) (st := []) dX3_readPiece_81 ml_X3_43 kX3_pass (by decide) ce_61 clX3 rfl rfl rfl (Nat.le_of_ble_eq_true rfl) (AM.mono h (fun r9 M6 h => ?_))
          obtain ⟨rfl, h⟩ := h
          refine aw_goto (tgt := 92) dX3_readPiece_84 (by decide) ?_
          exact aw_vret dX3_readPiece_92 rfl h
    · replace h := h.2 z
      refine aw_aload_n dX3_readPiece_17 rfl rfl ?_
      refine aw_iload_n dX3_readPiece_18 rfl rfl ?_
      refine aw_callV (mi := iX3_opens) (av := [.int x1]) (st := []) dX3_readPiece_19 ml_X3_98 kX3_opens (by decide) ce_61 clX3 rfl rfl rfl (Nat.le_of_ble_eq_true rfl) (AM.mono h (fun r9 M7 h => ?_))
      obtain ⟨rfl, h⟩ := h
      refine aw_aload_n dX3_readPiece_22 rfl rfl ?_
      refine aw_getf dX3_readPiece_23 fl_X3_32 (by decide) ce_61 rfl (v := .int (M7 61 4)) rfl ?_
      refine aw_if_ne (tgt := 92) dX3_readPiece_26 (by decide) (fun z => ?_) (fun z => ?_)
      · replace h := h.1 z
        exact aw_vret dX3_readPiece_92 rfl h
      · replace h := h.2 z
        refine aw_aload_n dX3_readPiece_29 rfl rfl ?_
        refine aw_iload_n dX3_readPiece_30 rfl rfl ?_
        refine aw_iconst (v := 1) dX3_readPiece_31 (by decide) ?_
        refine aw_iadd dX3_readPiece_32 ?_
        refine aw_callV (mi := iX3_readPiece) (av := [.int (x1 + 1)]) (st := []) dX3_readPiece_33 ml_X3_91 kX3_readPiece (by decide) ce_61 clX3 rfl rfl rfl (Nat.le_of_ble_eq_true rfl) (AM.mono h (fun r9 M8 h => ?_))
        obtain ⟨rfl, h⟩ := h
        refine aw_aload_n dX3_readPiece_36 rfl rfl ?_
        refine aw_getf dX3_readPiece_37 fl_X3_15 (by decide) ce_61 rfl (v := .ref 53) rfl ?_
        refine aw_bipush (v := 33) dX3_readPiece_40 (by decide) ?_
        refine aw_iconst (v := 0) dX3_readPiece_42 (by decide) ?_
        refine aw_callV (mi := iX2_addSign) (av := [.int 33, .int 0]) (st := []) dX3_readPiece_43 ml_X3_85 kX2_addSign (by decide) ce_53 clX2 rfl rfl rfl (Nat.le_of_ble_eq_true rfl) (AM.mono h (fun r9 M9 h => ?_))
        obtain ⟨r9, rfl, h⟩ := h
        refine aw_pop dX3_readPiece_46 rfl ?_
        refine aw_goto (tgt := 92) dX3_readPiece_47 (by decide) ?_
        exact aw_vret dX3_readPiece_92 rfl h
  · replace h := h.2 z
    exact aw_vret dX3_readPiece_7 rfl h
abbrev AX3_readPart (d : Nat) (Q : Option Int32 → Mem → Prop) (pc : Nat) (L : List (Option Value)) (st : List Value) (M : Mem) : Prop := AW none RX3 cX3_readPart 4 none d Q pc L st M
theorem eX3_readPart {d : Nat} {Q : Option Int32 → Mem → Prop} (M : Mem) (x1 : Int32) (h : AX3_readPart d Q 0 [lR 61, lI x1, none, none] [] M) : AM d iX3_readPart [.ref 61, .int x1] M Q := AM.of2 (by decide) rfl rfl h
theorem bX3_readPart_0 {d : Nat} {Q : Option Int32 → Mem → Prop} (M : Mem) (x1 : Int32) (h : AMv d iX3_readPiece [.ref 61, .int x1] M (fun M1 => AX3_readPart (d + 1) Q 7 [lR 61, lI x1, lI 0, none] [] M1)) : AX3_readPart (d + 1) Q 0 [lR 61, lI x1, none, none] [] M := by
  refine aw_aload_n dX3_readPart_0 rfl rfl ?_
  refine aw_iload_n dX3_readPart_1 rfl rfl ?_
  refine aw_callV (mi := iX3_readPiece) (av := [.int x1]) (st := []) dX3_readPart_2 ml_X3_91 kX3_readPiece (by decide) ce_61 clX3 rfl rfl rfl (Nat.le_of_ble_eq_true rfl) (AM.mono h (fun r9 M1 h => ?_))
  obtain ⟨rfl, h⟩ := h
  refine aw_iconst (v := 0) dX3_readPart_5 (by decide) ?_
  refine aw_istore_n (L2 := [lR 61, lI x1, lI 0, none]) dX3_readPart_6 rfl (by decide) rfl ?_
  exact h
theorem bX3_readPart_7 {d : Nat} {Q : Option Int32 → Mem → Prop} (M : Mem) (x1 x2 : Int32) (h : (160 ≤ x2 → Q none M) ∧ (¬ 160 ≤ x2 → AMi d iX3_isNext [.ref 61, .ref 1010] M (fun r1 M1 => (r1 = 0 → Q none M1) ∧ (¬ r1 = 0 → AMi d iX2_addSign [.ref 53, .int 38, .int 0] (wr M1 61 3 ((M1 61 3) + 1)) (fun r2 M2 => AMv d iX3_readPiece [.ref 61, .int x1] M2 (fun M3 => AMv d iX2_leapToHere [.ref 53, .int r2] M3 (fun M4 => AX3_readPart (d + 1) Q 7 [lR 61, lI x1, lI (x2 + 1), none] [] M4))))))) : AX3_readPart (d + 1) Q 7 [lR 61, lI x1, lI x2, none] [] M := by
  refine aw_iload_n dX3_readPart_7 rfl rfl ?_
  refine aw_sipush (v := 160) dX3_readPart_8 (by decide) ?_
  refine aw_icmp_ge (tgt := 63) dX3_readPart_11 (by decide) (fun z => ?_) (fun z => ?_)
  · replace h := h.1 z
    exact aw_vret dX3_readPart_63 rfl h
  · replace h := h.2 z
    refine aw_aload_n dX3_readPart_14 rfl rfl ?_
    refine aw_ldcS (i := 10) dX3_readPart_15 rfl ?_
    refine aw_callV (mi := iX3_isNext) (av := [.ref 1010]) (st := []) dX3_readPart_17 ml_X3_52 kX3_isNext (by decide) ce_61 clX3 rfl rfl rfl (Nat.le_of_ble_eq_true rfl) (AM.mono h (fun r9 M1 h => ?_))
    obtain ⟨r1, rfl, h⟩ := h
    refine aw_if_eq (tgt := 63) dX3_readPart_20 (by decide) (fun z => ?_) (fun z => ?_)
    · replace h := h.1 z
      exact aw_vret dX3_readPart_63 rfl h
    · replace h := h.2 z
      refine aw_aload_n dX3_readPart_23 rfl rfl ?_
      refine aw_dup dX3_readPart_24 rfl ?_
      refine aw_getf dX3_readPart_25 fl_X3_29 (by decide) ce_61 rfl (v := .int (M1 61 3)) rfl ?_
      refine aw_iconst (v := 1) dX3_readPart_28 (by decide) ?_
      refine aw_iadd dX3_readPart_29 ?_
      refine aw_putf dX3_readPart_30 fp_X3_29 (by decide) ce_61 rfl rfl rfl ?_
      refine aw_aload_n dX3_readPart_33 rfl rfl ?_
      refine aw_getf dX3_readPart_34 fl_X3_15 (by decide) ce_61 rfl (v := .ref 53) rfl ?_
      refine aw_bipush (v := 38) dX3_readPart_37 (by decide) ?_
      refine aw_iconst (v := 0) dX3_readPart_39 (by decide) ?_
      refine aw_callV (mi := iX2_addSign) (av := [.int 38, .int 0]) (st := []) dX3_readPart_40 ml_X3_85 kX2_addSign (by decide) ce_53 clX2 rfl rfl rfl (Nat.le_of_ble_eq_true rfl) (AM.mono h (fun r9 M2 h => ?_))
      obtain ⟨r2, rfl, h⟩ := h
      refine aw_istore_n (L2 := [lR 61, lI x1, lI x2, lI r2]) dX3_readPart_43 rfl (by decide) rfl ?_
      refine aw_aload_n dX3_readPart_44 rfl rfl ?_
      refine aw_iload_n dX3_readPart_45 rfl rfl ?_
      refine aw_callV (mi := iX3_readPiece) (av := [.int x1]) (st := []) dX3_readPart_46 ml_X3_91 kX3_readPiece (by decide) ce_61 clX3 rfl rfl rfl (Nat.le_of_ble_eq_true rfl) (AM.mono h (fun r9 M3 h => ?_))
      obtain ⟨rfl, h⟩ := h
      refine aw_aload_n dX3_readPart_49 rfl rfl ?_
      refine aw_getf dX3_readPart_50 fl_X3_15 (by decide) ce_61 rfl (v := .ref 53) rfl ?_
      refine aw_iload_n dX3_readPart_53 rfl rfl ?_
      refine aw_callV (mi := iX2_leapToHere) (av := [.int r2]) (st := []) dX3_readPart_54 ml_X3_88 kX2_leapToHere (by decide) ce_53 clX2 rfl rfl rfl (Nat.le_of_ble_eq_true rfl) (AM.mono h (fun r9 M4 h => ?_))
      obtain ⟨rfl, h⟩ := h
      refine aw_iinc (y := 1) (L2 := [lR 61, lI x1, lI (x2 + 1), lI r2]) dX3_readPart_57 rfl (by decide) (by decide) rfl ?_
      refine aw_goto (tgt := 7) dX3_readPart_60 (by decide) ?_
      exact aw_less (less_k (less_k (less_k (less_d less_nil)))) h
abbrev AX3_readChoice (d : Nat) (Q : Option Int32 → Mem → Prop) (pc : Nat) (L : List (Option Value)) (st : List Value) (M : Mem) : Prop := AW none RX3 cX3_readChoice 4 none d Q pc L st M
theorem eX3_readChoice {d : Nat} {Q : Option Int32 → Mem → Prop} (M : Mem) (x1 : Int32) (h : AX3_readChoice d Q 0 [lR 61, lI x1, none, none] [] M) : AM d iX3_readChoice [.ref 61, .int x1] M Q := AM.of2 (by decide) rfl rfl h
theorem bX3_readChoice_0 {d : Nat} {Q : Option Int32 → Mem → Prop} (M : Mem) (x1 : Int32) (h : AMv d iX3_readPart [.ref 61, .int x1] M (fun M1 => AX3_readChoice (d + 1) Q 7 [lR 61, lI x1, lI 0, none] [] M1)) : AX3_readChoice (d + 1) Q 0 [lR 61, lI x1, none, none] [] M := by
  refine aw_aload_n dX3_readChoice_0 rfl rfl ?_
  refine aw_iload_n dX3_readChoice_1 rfl rfl ?_
  refine aw_callV (mi := iX3_readPart) (av := [.int x1]) (st := []) dX3_readChoice_2 ml_X3_80 kX3_readPart (by decide) ce_61 clX3 rfl rfl rfl (Nat.le_of_ble_eq_true rfl) (AM.mono h (fun r9 M1 h => ?_))
  obtain ⟨rfl, h⟩ := h
  refine aw_iconst (v := 0) dX3_readChoice_5 (by decide) ?_
  refine aw_istore_n (L2 := [lR 61, lI x1, lI 0, none]) dX3_readChoice_6 rfl (by decide) rfl ?_
  exact h
theorem bX3_readChoice_7 {d : Nat} {Q : Option Int32 → Mem → Prop} (M : Mem) (x1 x2 : Int32) (h : (160 ≤ x2 → Q none M) ∧ (¬ 160 ≤ x2 → AMi d iX3_isNext [.ref 61, .ref 1011] M (fun r1 M1 => (r1 = 0 → Q none M1) ∧ (¬ r1 = 0 → AMi d iX2_addSign [.ref 53, .int 124, .int 0] (wr M1 61 3 ((M1 61 3) + 1)) (fun r2 M2 => AMv d iX3_readPart [.ref 61, .int x1] M2 (fun M3 => AMv d iX2_leapToHere [.ref 53, .int r2] M3 (fun M4 => AX3_readChoice (d + 1) Q 7 [lR 61, lI x1, lI (x2 + 1), none] [] M4))))))) : AX3_readChoice (d + 1) Q 7 [lR 61, lI x1, lI x2, none] [] M := by
  refine aw_iload_n dX3_readChoice_7 rfl rfl ?_
  refine aw_sipush (v := 160) dX3_readChoice_8 (by decide) ?_
  refine aw_icmp_ge (tgt := 63) dX3_readChoice_11 (by decide) (fun z => ?_) (fun z => ?_)
  · replace h := h.1 z
    exact aw_vret dX3_readChoice_63 rfl h
  · replace h := h.2 z
    refine aw_aload_n dX3_readChoice_14 rfl rfl ?_
    refine aw_ldcS (i := 11) dX3_readChoice_15 rfl ?_
    refine aw_callV (mi := iX3_isNext) (av := [.ref 1011]) (st := []) dX3_readChoice_17 ml_X3_52 kX3_isNext (by decide) ce_61 clX3 rfl rfl rfl (Nat.le_of_ble_eq_true rfl) (AM.mono h (fun r9 M1 h => ?_))
    obtain ⟨r1, rfl, h⟩ := h
    refine aw_if_eq (tgt := 63) dX3_readChoice_20 (by decide) (fun z => ?_) (fun z => ?_)
    · replace h := h.1 z
      exact aw_vret dX3_readChoice_63 rfl h
    · replace h := h.2 z
      refine aw_aload_n dX3_readChoice_23 rfl rfl ?_
      refine aw_dup dX3_readChoice_24 rfl ?_
      refine aw_getf dX3_readChoice_25 fl_X3_29 (by decide) ce_61 rfl (v := .int (M1 61 3)) rfl ?_
      refine aw_iconst (v := 1) dX3_readChoice_28 (by decide) ?_
      refine aw_iadd dX3_readChoice_29 ?_
      refine aw_putf dX3_readChoice_30 fp_X3_29 (by decide) ce_61 rfl rfl rfl ?_
      refine aw_aload_n dX3_readChoice_33 rfl rfl ?_
      refine aw_getf dX3_readChoice_34 fl_X3_15 (by decide) ce_61 rfl (v := .ref 53) rfl ?_
      refine aw_bipush (v := 124) dX3_readChoice_37 (by decide) ?_
      refine aw_iconst (v := 0) dX3_readChoice_39 (by decide) ?_
      refine aw_callV (mi := iX2_addSign) (av := [.int 124, .int 0]) (st := []) dX3_readChoice_40 ml_X3_85 kX2_addSign (by decide) ce_53 clX2 rfl rfl rfl (Nat.le_of_ble_eq_true rfl) (AM.mono h (fun r9 M2 h => ?_))
      obtain ⟨r2, rfl, h⟩ := h
      refine aw_istore_n (L2 := [lR 61, lI x1, lI x2, lI r2]) dX3_readChoice_43 rfl (by decide) rfl ?_
      refine aw_aload_n dX3_readChoice_44 rfl rfl ?_
      refine aw_iload_n dX3_readChoice_45 rfl rfl ?_
      refine aw_callV (mi := iX3_readPart) (av := [.int x1]) (st := []) dX3_readChoice_46 ml_X3_80 kX3_readPart (by decide) ce_61 clX3 rfl rfl rfl (Nat.le_of_ble_eq_true rfl) (AM.mono h (fun r9 M3 h => ?_))
      obtain ⟨rfl, h⟩ := h
      refine aw_aload_n dX3_readChoice_49 rfl rfl ?_
      refine aw_getf dX3_readChoice_50 fl_X3_15 (by decide) ce_61 rfl (v := .ref 53) rfl ?_
      refine aw_iload_n dX3_readChoice_53 rfl rfl ?_
      refine aw_callV (mi := iX2_leapToHere) (av := [.int r2]) (st := []) dX3_readChoice_54 ml_X3_88 kX2_leapToHere (by decide) ce_53 clX2 rfl rfl rfl (Nat.le_of_ble_eq_true rfl) (AM.mono h (fun r9 M4 h => ?_))
      obtain ⟨rfl, h⟩ := h
      refine aw_iinc (y := 1) (L2 := [lR 61, lI x1, lI (x2 + 1), lI r2]) dX3_readChoice_57 rfl (by decide) (by decide) rfl ?_
      refine aw_goto (tgt := 7) dX3_readChoice_60 (by decide) ?_
      exact aw_less (less_k (less_k (less_k (less_d less_nil)))) h
abbrev AX3_readClause (d : Nat) (Q : Option Int32 → Mem → Prop) (pc : Nat) (L : List (Option Value)) (st : List Value) (M : Mem) : Prop := AW none RX3 cX3_readClause 2 none d Q pc L st M
theorem eX3_readClause {d : Nat} {Q : Option Int32 → Mem → Prop} (M : Mem) (h : AX3_readClause d Q 0 [lR 61, none] [] M) : AM d iX3_readClause [.ref 61] M Q := AM.of2 (by decide) rfl rfl h
theorem bX3_readClause_0 {d : Nat} {Q : Option Int32 → Mem → Prop} (M : Mem) (h : ((M 61 4) = 0 → AMi d iX3_isNext [.ref 61, .ref 1000] M (fun r1 M1 => (¬ r1 = 0 → ((M1 53 0) < 12 → AMi d iX3_isNext [.ref 61, .ref 1001] M1 (fun r2 M2 => AMi d iX3_sign [.ref 61] M2 (fun r3 M3 => AMv d iX2_beginClause [.ref 53, .int r3] M3 (fun M4 => (r2 = 0 → AX3_readClause (d + 1) Q 82 [lR 61, none] [] (wr M4 61 3 ((M4 61 3) + 1))) ∧ (¬ r2 = 0 → AMv d iX3_readSum [.ref 61, .int 0] (wr M4 61 3 ((M4 61 3) + 1)) (fun M5 => AX3_readClause (d + 1) Q 82 [lR 61, none] [] M5)))))) ∧ (¬ (M1 53 0) < 12 → AMv d iX3_fail [.ref 61, .int 4] M1 (fun M6 => Q none M6))) ∧ (r1 = 0 → AMv d iX3_fail [.ref 61, .int 1] M1 (fun M7 => Q none M7)))) ∧ (¬ (M 61 4) = 0 → Q none M)) : AX3_readClause (d + 1) Q 0 [lR 61, none] [] M := by
  refine aw_aload_n dX3_readClause_0 rfl rfl ?_
  refine aw_getf dX3_readClause_1 fl_X3_32 (by decide) ce_61 rfl (v := .int (M 61 4)) rfl ?_
  refine aw_if_eq (tgt := 8) dX3_readClause_4 (by decide) (fun z => ?_) (fun z => ?_)
  · replace h := h.1 z
    refine aw_aload_n dX3_readClause_8 rfl rfl ?_
    refine aw_ldcS (i := 0) dX3_readClause_9 rfl ?_
    refine aw_callV (mi := iX3_isNext) (av := [.ref 1000]) (st := []) dX3_readClause_11 ml_X3_52 kX3_isNext (by decide) ce_61 clX3 rfl rfl rfl (Nat.le_of_ble_eq_true rfl) (AM.mono h (fun r9 M1 h => ?_))
    obtain ⟨r1, rfl, h⟩ := h
    refine aw_if_ne (tgt := 25) dX3_readClause_14 (by decide) (fun z => ?_) (fun z => ?_)
    · replace h := h.1 z
      refine aw_aload_n dX3_readClause_25 rfl rfl ?_
      refine aw_getf dX3_readClause_26 fl_X3_15 (by decide) ce_61 rfl (v := .ref 53) rfl ?_
      refine aw_getf dX3_readClause_29 fl_X3_47 (by decide) ce_53 rfl (v := .int (M1 53 0)) rfl ?_
      refine aw_bipush (v := 12) dX3_readClause_32 (by decide) ?_
      refine aw_icmp_lt (tgt := 45) dX3_readClause_34 (by decide) (fun z => ?_) (fun z => ?_)
      · replace h := h.1 z
        refine aw_aload_n dX3_readClause_45 rfl rfl ?_
        refine aw_ldcS (i := 1) dX3_readClause_46 rfl ?_
        refine aw_callV (mi := iX3_isNext) (av := [.ref 1001]) (st := []) dX3_readClause_48 ml_X3_52 kX3_isNext (by decide) ce_61 clX3 rfl rfl rfl (Nat.le_of_ble_eq_true rfl) (AM.mono h (fun r9 M2 h => ?_))
        obtain ⟨r2, rfl, h⟩ := h
        refine aw_istore_n (L2 := [lR 61, lI r2]) dX3_readClause_51 rfl (by decide) rfl ?_
        refine aw_aload_n dX3_readClause_52 rfl rfl ?_
        refine aw_getf dX3_readClause_53 fl_X3_15 (by decide) ce_61 rfl (v := .ref 53) rfl ?_
        refine aw_aload_n dX3_readClause_56 rfl rfl ?_
        refine aw_callV (mi := iX3_sign) (av := []) (st := [.ref 53]) dX3_readClause_57 ml_X3_61 kX3_sign (by decide) ce_61 clX3 rfl rfl rfl (Nat.le_of_ble_eq_true rfl) (AM.mono h (fun r9 M3 h => ?_))
        obtain ⟨r3, rfl, h⟩ := h
        refine aw_callV (mi := iX2_beginClause) (av := [.int r3]) (st := []) dX3_readClause_60 ml_X3_65 kX2_beginClause (by decide) ce_53 clX2 rfl rfl rfl (Nat.le_of_ble_eq_true rfl) (AM.mono h (fun r9 M4 h => ?_))
        obtain ⟨rfl, h⟩ := h
        refine aw_aload_n dX3_readClause_63 rfl rfl ?_
        refine aw_dup dX3_readClause_64 rfl ?_
        refine aw_getf dX3_readClause_65 fl_X3_29 (by decide) ce_61 rfl (v := .int (M4 61 3)) rfl ?_
        refine aw_iconst (v := 1) dX3_readClause_68 (by decide) ?_
        refine aw_iadd dX3_readClause_69 ?_
        refine aw_putf dX3_readClause_70 fp_X3_29 (by decide) ce_61 rfl rfl rfl ?_
        refine aw_iload_n dX3_readClause_73 rfl rfl ?_
        refine aw_if_eq (tgt := 82) dX3_readClause_74 (by decide) (fun z => ?_) (fun z => ?_)
        · replace h := h.1 z
          exact aw_less (less_k (less_d less_nil)) h
        · replace h := h.2 z
          refine aw_aload_n dX3_readClause_77 rfl rfl ?_
          refine aw_iconst (v := 0) dX3_readClause_78 (by decide) ?_
          refine aw_callV (mi := iX3_readSum) (av := [.int 0]) (st := []) dX3_readClause_79 ml_X3_68 kX3_readSum (by decide) ce_61 clX3 rfl rfl rfl (Nat.le_of_ble_eq_true rfl) (AM.mono h (fun r9 M5 h => ?_))
          obtain ⟨rfl, h⟩ := h
          exact aw_less (less_k (less_d less_nil)) h
      · replace h := h.2 z
        refine aw_aload_n dX3_readClause_37 rfl rfl ?_
        refine aw_iconst (v := 4) dX3_readClause_38 (by decide) ?_
        refine aw_callV (mi := iX3_fail) (av := [.int 4]) (st := []) dX3_readClause_39 ml_X3_56 kX3_fail (by decide) ce_61 clX3 rfl rfl rfl (Nat.le_of_ble_eq_true rfl) (AM.mono h (fun r9 M6 h => ?_))
        obtain ⟨rfl, h⟩ := h
        refine aw_goto (tgt := 113) dX3_readClause_42 (by decide) ?_
        exact aw_vret dX3_readClause_113 rfl h
    · replace h := h.2 z
      refine aw_aload_n dX3_readClause_17 rfl rfl ?_
      refine aw_iconst (v := 1) dX3_readClause_18 (by decide) ?_
      refine aw_callV (mi := iX3_fail) (av := [.int 1]) (st := []) dX3_readClause_19 ml_X3_56 kX3_fail (by decide) ce_61 clX3 rfl rfl rfl (Nat.le_of_ble_eq_true rfl) (AM.mono h (fun r9 M7 h => ?_))
      obtain ⟨rfl, h⟩ := h
      refine aw_goto (tgt := 113) dX3_readClause_22 (by decide) ?_
      exact aw_vret dX3_readClause_113 rfl h
  · replace h := h.2 z
    exact aw_vret dX3_readClause_7 rfl h
theorem bX3_readClause_82 {d : Nat} {Q : Option Int32 → Mem → Prop} (M : Mem) (h : AMv d iX2_beginCondition [.ref 53] M (fun M1 => AMv d iX3_pass [.ref 61, .int 40] M1 (fun M2 => AMv d iX3_readChoice [.ref 61, .int 1] M2 (fun M3 => AMv d iX3_pass [.ref 61, .int 41] M3 (fun M4 => AMv d iX2_endClause [.ref 53] M4 (fun M5 => Q none M5)))))) : AX3_readClause (d + 1) Q 82 [lR 61, none] [] M := by
  refine aw_aload_n dX3_readClause_82 rfl rfl ?_
  refine aw_getf dX3_readClause_83 fl_X3_15 (by decide) ce_61 rfl (v := .ref 53) rfl ?_
  refine aw_callV (mi := iX2_beginCondition) (av := []) (st := []) dX3_readClause_86 ml_X3_71 kX2_beginCondition (by decide) ce_53 clX2 rfl rfl rfl (Nat.le_of_ble_eq_true rfl) (AM.mono h (fun r9 M1 h => ?_))
  obtain ⟨rfl, h⟩ := h
  refine aw_aload_n dX3_readClause_89 rfl rfl ?_
  refine aw_bipush (v := 40) dX3_readClause_90 (by decide) ?_
  refine aw_callV (mi := iX3_pass) (av := [.int 40]) (st := []) dX3_readClause_92 ml_X3_43 kX3_pass (by decide) ce_61 clX3 rfl rfl rfl (Nat.le_of_ble_eq_true rfl) (AM.mono h (fun r9 M2 h => ?_))
  obtain ⟨rfl, h⟩ := h
  refine aw_aload_n dX3_readClause_95 rfl rfl ?_
  refine aw_iconst (v := 1) dX3_readClause_96 (by decide) ?_
  refine aw_callV (mi := iX3_readChoice) (av := [.int 1]) (st := []) dX3_readClause_97 ml_X3_74 kX3_readChoice (by decide) ce_61 clX3 rfl rfl rfl (Nat.le_of_ble_eq_true rfl) (AM.mono h (fun r9 M3 h => ?_))
  obtain ⟨rfl, h⟩ := h
  refine aw_aload_n dX3_readClause_100 rfl rfl ?_
  refine aw_bipush (v := 41) dX3_readClause_101 (by decide) ?_
  refine aw_callV (mi := iX3_pass) (av := [.int 41]) (st := []) dX3_readClause_103 ml_X3_43 kX3_pass (by decide) ce_61 clX3 rfl rfl rfl (Nat.le_of_ble_eq_true rfl) (AM.mono h (fun r9 M4 h => ?_))
  obtain ⟨rfl, h⟩ := h
  refine aw_aload_n dX3_readClause_106 rfl rfl ?_
  refine aw_getf dX3_readClause_107 fl_X3_15 (by decide) ce_61 rfl (v := .ref 53) rfl ?_
  refine aw_callV (mi := iX2_endClause) (av := []) (st := []) dX3_readClause_110 ml_X3_77 kX2_endClause (by decide) ce_53 clX2 rfl rfl rfl (Nat.le_of_ble_eq_true rfl) (AM.mono h (fun r9 M5 h => ?_))
  obtain ⟨rfl, h⟩ := h
  exact aw_vret dX3_readClause_113 rfl h
abbrev AX3_readText (d : Nat) (Q : Option Int32 → Mem → Prop) (pc : Nat) (L : List (Option Value)) (st : List Value) (M : Mem) : Prop := AW none RX3 cX3_readText 3 (some .int) d Q pc L st M
theorem eX3_readText {d : Nat} {Q : Option Int32 → Mem → Prop} (M : Mem) (x1 : Int32) (h : AX3_readText d Q 0 [lR 61, lI x1, none] [] M) : AM d iX3_readText [.ref 61, .int x1] M Q := AM.of2 (by decide) rfl rfl h
theorem bX3_readText_0 {d : Nat} {Q : Option Int32 → Mem → Prop} (M : Mem) (x1 : Int32) (h : AMv d iX2_clear [.ref 53] (wr (wr (wr M 61 2 (if 160 < x1 then 160 else x1)) 61 3 0) 61 4 0) (fun M1 => AMv d iX3_readClause [.ref 61] M1 (fun M2 => AX3_readText (d + 1) Q 34 [lR 61, none, lI 0] [] M2))) : AX3_readText (d + 1) Q 0 [lR 61, lI x1, none] [] M := by
  refine aw_aload_n dX3_readText_0 rfl rfl ?_
  refine aw_iload_n dX3_readText_1 rfl rfl ?_
  refine aw_sipush (v := 160) dX3_readText_2 (by decide) ?_
  refine aw_mmin dX3_readText_5 ml_X3_19 mm_min_s mm_i mm_min_c (Nat.le_of_ble_eq_true rfl) ?_
  refine aw_putf dX3_readText_8 fp_X3_25 (by decide) ce_61 rfl rfl rfl ?_
  refine aw_aload_n dX3_readText_11 rfl rfl ?_
  refine aw_iconst (v := 0) dX3_readText_12 (by decide) ?_
  refine aw_putf dX3_readText_13 fp_X3_29 (by decide) ce_61 rfl rfl rfl ?_
  refine aw_aload_n dX3_readText_16 rfl rfl ?_
  refine aw_iconst (v := 0) dX3_readText_17 (by decide) ?_
  refine aw_putf dX3_readText_18 fp_X3_32 (by decide) ce_61 rfl rfl rfl ?_
  refine aw_aload_n dX3_readText_21 rfl rfl ?_
  refine aw_getf dX3_readText_22 fl_X3_15 (by decide) ce_61 rfl (v := .ref 53) rfl ?_
  refine aw_callV (mi := iX2_clear) (av := []) (st := []) dX3_readText_25 ml_X3_35 kX2_clear (by decide) ce_53 clX2 rfl rfl rfl (Nat.le_of_ble_eq_true rfl) (AM.mono h (fun r9 M1 h => ?_))
  obtain ⟨rfl, h⟩ := h
  refine aw_aload_n dX3_readText_28 rfl rfl ?_
  refine aw_callV (mi := iX3_readClause) (av := []) (st := []) dX3_readText_29 ml_X3_40 kX3_readClause (by decide) ce_61 clX3 rfl rfl rfl (Nat.le_of_ble_eq_true rfl) (AM.mono h (fun r9 M2 h => ?_))
  obtain ⟨rfl, h⟩ := h
  refine aw_iconst (v := 0) dX3_readText_32 (by decide) ?_
  refine aw_istore_n (L2 := [lR 61, lI x1, lI 0]) dX3_readText_33 rfl (by decide) rfl ?_
  exact aw_less (less_k (less_d (less_k less_nil))) h
theorem bX3_readText_34 {d : Nat} {Q : Option Int32 → Mem → Prop} (M : Mem) (x2 : Int32) (h : (160 ≤ x2 → AX3_readText (d + 1) Q 75 [lR 61, none, none] [] M) ∧ (¬ 160 ≤ x2 → (¬ (M 61 4) = 0 → AX3_readText (d + 1) Q 75 [lR 61, none, none] [] M) ∧ ((M 61 4) = 0 → ((M 61 2) ≤ (M 61 3) → AX3_readText (d + 1) Q 75 [lR 61, none, none] [] M) ∧ (¬ (M 61 2) ≤ (M 61 3) → AMv d iX3_pass [.ref 61, .int 59] M (fun M1 => AMv d iX3_readClause [.ref 61] M1 (fun M2 => AX3_readText (d + 1) Q 34 [lR 61, none, lI (x2 + 1)] [] M2)))))) : AX3_readText (d + 1) Q 34 [lR 61, none, lI x2] [] M := by
  refine aw_iload_n dX3_readText_34 rfl rfl ?_
  refine aw_sipush (v := 160) dX3_readText_35 (by decide) ?_
  refine aw_icmp_ge (tgt := 75) dX3_readText_38 (by decide) (fun z => ?_) (fun z => ?_)
  · replace h := h.1 z
    exact aw_less (less_k (less_k (less_d less_nil))) h
  · replace h := h.2 z
    refine aw_aload_n dX3_readText_41 rfl rfl ?_
    refine aw_getf dX3_readText_42 fl_X3_32 (by decide) ce_61 rfl (v := .int (M 61 4)) rfl ?_
    refine aw_if_ne (tgt := 75) dX3_readText_45 (by decide) (fun z => ?_) (fun z => ?_)
    · replace h := h.1 z
      exact aw_less (less_k (less_k (less_d less_nil))) h
    · replace h := h.2 z
      refine aw_aload_n dX3_readText_48 rfl rfl ?_
      refine aw_getf dX3_readText_49 fl_X3_29 (by decide) ce_61 rfl (v := .int (M 61 3)) rfl ?_
      refine aw_aload_n dX3_readText_52 rfl rfl ?_
      refine aw_getf dX3_readText_53 fl_X3_25 (by decide) ce_61 rfl (v := .int (M 61 2)) rfl ?_
      refine aw_icmp_ge (tgt := 75) dX3_readText_56 (by decide) (fun z => ?_) (fun z => ?_)
      · replace h := h.1 z
        exact aw_less (less_k (less_k (less_d less_nil))) h
      · replace h := h.2 z
        refine aw_aload_n dX3_readText_59 rfl rfl ?_
        refine aw_bipush (v := 59) dX3_readText_60 (by decide) ?_
        refine aw_callV (mi := iX3_pass) (av := [.int 59]) (st := []) dX3_readText_62 ml_X3_43 kX3_pass (by decide) ce_61 clX3 rfl rfl rfl (Nat.le_of_ble_eq_true rfl) (AM.mono h (fun r9 M1 h => ?_))
        obtain ⟨rfl, h⟩ := h
        refine aw_aload_n dX3_readText_65 rfl rfl ?_
        refine aw_callV (mi := iX3_readClause) (av := []) (st := []) dX3_readText_66 ml_X3_40 kX3_readClause (by decide) ce_61 clX3 rfl rfl rfl (Nat.le_of_ble_eq_true rfl) (AM.mono h (fun r9 M2 h => ?_))
        obtain ⟨rfl, h⟩ := h
        refine aw_iinc (y := 1) (L2 := [lR 61, none, lI (x2 + 1)]) dX3_readText_69 rfl (by decide) (by decide) rfl ?_
        refine aw_goto (tgt := 34) dX3_readText_72 (by decide) ?_
        exact h
theorem bX3_readText_75 {d : Nat} {Q : Option Int32 → Mem → Prop} (M : Mem) (h : ((M 61 4) = 0 → Q (some (M 53 0)) M) ∧ (¬ (M 61 4) = 0 → Q (some (M 61 4)) M)) : AX3_readText (d + 1) Q 75 [lR 61, none, none] [] M := by
  refine aw_aload_n dX3_readText_75 rfl rfl ?_
  refine aw_getf dX3_readText_76 fl_X3_32 (by decide) ce_61 rfl (v := .int (M 61 4)) rfl ?_
  refine aw_if_eq (tgt := 89) dX3_readText_79 (by decide) (fun z => ?_) (fun z => ?_)
  · replace h := h.1 z
    refine aw_aload_n dX3_readText_89 rfl rfl ?_
    refine aw_getf dX3_readText_90 fl_X3_15 (by decide) ce_61 rfl (v := .ref 53) rfl ?_
    refine aw_getf dX3_readText_93 fl_X3_47 (by decide) ce_53 rfl (v := .int (M 53 0)) rfl ?_
    exact aw_iret dX3_readText_96 rfl rfl h
  · replace h := h.2 z
    refine aw_aload_n dX3_readText_82 rfl rfl ?_
    refine aw_getf dX3_readText_83 fl_X3_32 (by decide) ce_61 rfl (v := .int (M 61 4)) rfl ?_
    refine aw_goto (tgt := 96) dX3_readText_86 (by decide) ?_
    exact aw_iret dX3_readText_96 rfl rfl h
