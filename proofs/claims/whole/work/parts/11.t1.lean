abbrev AX10_in (d : Nat) (Q : Option Int32 → Mem → Prop) (pc : Nat) (L : List (Option Value)) (st : List Value) (M : Mem) : Prop := AW none RX10 cX10_in 3 (some .boolean) d Q pc L st M
theorem bX10_in_0 {d : Nat} {Q : Option Int32 → Mem → Prop} (M : Mem) (x0 x1 x2 : Int32) (h : (x0 < x1 → Q (some 0) M) ∧ (¬ x0 < x1 → (x2 < x0 → Q (some 0) M) ∧ (¬ x2 < x0 → Q (some 1) M))) : AX10_in d Q 0 [lI x0, lI x1, lI x2] [] M := by
  refine aw_iload_n dX10_in_0 rfl rfl ?_
  refine aw_iload_n dX10_in_1 rfl rfl ?_
  refine aw_icmp_lt (tgt := 14) dX10_in_2 (by decide) (fun z => ?_) (fun z => ?_)
  · replace h := h.1 z
    refine aw_iconst (v := 0) dX10_in_14 (by decide) ?_
    exact aw_iret dX10_in_15 rfl (nar_b (by decide)) h
  · replace h := h.2 z
    refine aw_iload_n dX10_in_5 rfl rfl ?_
    refine aw_iload_n dX10_in_6 rfl rfl ?_
    refine aw_icmp_gt (tgt := 14) dX10_in_7 (by decide) (fun z => ?_) (fun z => ?_)
    · replace h := h.1 z
      refine aw_iconst (v := 0) dX10_in_14 (by decide) ?_
      exact aw_iret dX10_in_15 rfl (nar_b (by decide)) h
    · replace h := h.2 z
      refine aw_iconst (v := 1) dX10_in_10 (by decide) ?_
      refine aw_goto (tgt := 15) dX10_in_11 (by decide) ?_
      exact aw_iret dX10_in_15 rfl (nar_b (by decide)) h
abbrev AX10_min (d : Nat) (Q : Option Int32 → Mem → Prop) (pc : Nat) (L : List (Option Value)) (st : List Value) (M : Mem) : Prop := AW none RX10 cX10_min 2 (some .int) d Q pc L st M
theorem bX10_min_0 {d : Nat} {Q : Option Int32 → Mem → Prop} (M : Mem) (x0 x1 : Int32) (h : (x1 ≤ x0 → Q (some x1) M) ∧ (¬ x1 ≤ x0 → Q (some x0) M)) : AX10_min d Q 0 [lI x0, lI x1] [] M := by
  refine aw_iload_n dX10_min_0 rfl rfl ?_
  refine aw_iload_n dX10_min_1 rfl rfl ?_
  refine aw_icmp_ge (tgt := 9) dX10_min_2 (by decide) (fun z => ?_) (fun z => ?_)
  · replace h := h.1 z
    refine aw_iload_n dX10_min_9 rfl rfl ?_
    exact aw_iret dX10_min_10 rfl rfl h
  · replace h := h.2 z
    refine aw_iload_n dX10_min_5 rfl rfl ?_
    refine aw_goto (tgt := 10) dX10_min_6 (by decide) ?_
    exact aw_iret dX10_min_10 rfl rfl h
abbrev AX10_has (d : Nat) (Q : Option Int32 → Mem → Prop) (pc : Nat) (L : List (Option Value)) (st : List Value) (M : Mem) : Prop := AW none RX10 cX10_has 2 (some .boolean) d Q pc L st M
theorem bX10_has_0 {d : Nat} {Q : Option Int32 → Mem → Prop} (M : Mem) (x0 x1 : Int32) (h : (¬ ((x0 >>> (x1 &&& 31)) &&& 1) = 1 → Q (some 0) M) ∧ (((x0 >>> (x1 &&& 31)) &&& 1) = 1 → Q (some 1) M)) : AX10_has d Q 0 [lI x0, lI x1] [] M := by
  refine aw_iload_n dX10_has_0 rfl rfl ?_
  refine aw_iload_n dX10_has_1 rfl rfl ?_
  refine aw_ishr dX10_has_2 ?_
  refine aw_iconst (v := 1) dX10_has_3 (by decide) ?_
  refine aw_iand dX10_has_4 ?_
  refine aw_iconst (v := 1) dX10_has_5 (by decide) ?_
  refine aw_icmp_ne (tgt := 13) dX10_has_6 (by decide) (fun z => ?_) (fun z => ?_)
  · replace h := h.1 z
    refine aw_iconst (v := 0) dX10_has_13 (by decide) ?_
    exact aw_iret dX10_has_14 rfl (nar_b (by decide)) h
  · replace h := h.2 z
    refine aw_iconst (v := 1) dX10_has_9 (by decide) ?_
    refine aw_goto (tgt := 14) dX10_has_10 (by decide) ?_
    exact aw_iret dX10_has_14 rfl (nar_b (by decide)) h
abbrev AX10_isPerson (d : Nat) (Q : Option Int32 → Mem → Prop) (pc : Nat) (L : List (Option Value)) (st : List Value) (M : Mem) : Prop := AW none RX10 cX10_isPerson 2 (some .boolean) d Q pc L st M
theorem bX10_isPerson_0 {d : Nat} {Q : Option Int32 → Mem → Prop} (M : Mem) (x1 : Int32) (h : (x1 < 0 → Q (some 0) M) ∧ (¬ x1 < 0 → ((M 77 0) ≤ x1 → Q (some 0) M) ∧ (¬ (M 77 0) ≤ x1 → Q (some 1) M))) : AX10_isPerson d Q 0 [lR 77, lI x1] [] M := by
  refine aw_iload_n dX10_isPerson_0 rfl rfl ?_
  refine aw_if_lt (tgt := 16) dX10_isPerson_1 (by decide) (fun z => ?_) (fun z => ?_)
  · replace h := h.1 z
    refine aw_iconst (v := 0) dX10_isPerson_16 (by decide) ?_
    exact aw_iret dX10_isPerson_17 rfl (nar_b (by decide)) h
  · replace h := h.2 z
    refine aw_iload_n dX10_isPerson_4 rfl rfl ?_
    refine aw_aload_n dX10_isPerson_5 rfl rfl ?_
    refine aw_getf dX10_isPerson_6 fl_X10_138 (by decide) ce_77 rfl (v := .int (M 77 0)) rfl ?_
    refine aw_icmp_ge (tgt := 16) dX10_isPerson_9 (by decide) (fun z => ?_) (fun z => ?_)
    · replace h := h.1 z
      refine aw_iconst (v := 0) dX10_isPerson_16 (by decide) ?_
      exact aw_iret dX10_isPerson_17 rfl (nar_b (by decide)) h
    · replace h := h.2 z
      refine aw_iconst (v := 1) dX10_isPerson_12 (by decide) ?_
      refine aw_goto (tgt := 17) dX10_isPerson_13 (by decide) ?_
      exact aw_iret dX10_isPerson_17 rfl (nar_b (by decide)) h
abbrev AX10_bits (d : Nat) (Q : Option Int32 → Mem → Prop) (pc : Nat) (L : List (Option Value)) (st : List Value) (M : Mem) : Prop := AW none RX10 cX10_bits 3 (some .int) d Q pc L st M
theorem bX10_bits_0 {d : Nat} {Q : Option Int32 → Mem → Prop} (M : Mem) (x0 : Int32) (h : AX10_bits d Q 4 [lI x0, lI 0, lI 0] [] M) : AX10_bits d Q 0 [lI x0, none, none] [] M := by
  refine aw_iconst (v := 0) dX10_bits_0 (by decide) ?_
  refine aw_istore_n (L2 := [lI x0, lI 0, none]) dX10_bits_1 rfl (by decide) rfl ?_
  refine aw_iconst (v := 0) dX10_bits_2 (by decide) ?_
  refine aw_istore_n (L2 := [lI x0, lI 0, lI 0]) dX10_bits_3 rfl (by decide) rfl ?_
  exact h
theorem bX10_bits_4 {d : Nat} {Q : Option Int32 → Mem → Prop} (M : Mem) (x0 x1 x2 : Int32) (h : (16 ≤ x2 → Q (some x1) M) ∧ (¬ 16 ≤ x2 → AX10_bits d Q 4 [lI x0, lI (x1 + ((x0 >>> (x2 &&& 31)) &&& 1)), lI (x2 + 1)] [] M)) : AX10_bits d Q 4 [lI x0, lI x1, lI x2] [] M := by
  refine aw_iload_n dX10_bits_4 rfl rfl ?_
  refine aw_bipush (v := 16) dX10_bits_5 (by decide) ?_
  refine aw_icmp_ge (tgt := 24) dX10_bits_7 (by decide) (fun z => ?_) (fun z => ?_)
  · replace h := h.1 z
    refine aw_iload_n dX10_bits_24 rfl rfl ?_
    exact aw_iret dX10_bits_25 rfl rfl h
  · replace h := h.2 z
    refine aw_iload_n dX10_bits_10 rfl rfl ?_
    refine aw_iload_n dX10_bits_11 rfl rfl ?_
    refine aw_iload_n dX10_bits_12 rfl rfl ?_
    refine aw_ishr dX10_bits_13 ?_
    refine aw_iconst (v := 1) dX10_bits_14 (by decide) ?_
    refine aw_iand dX10_bits_15 ?_
    refine aw_iadd dX10_bits_16 ?_
    refine aw_istore_n (L2 := [lI x0, lI (x1 + ((x0 >>> (x2 &&& 31)) &&& 1)), lI x2]) dX10_bits_17 rfl (by decide) rfl ?_
    refine aw_iinc (y := 1) (L2 := [lI x0, lI (x1 + ((x0 >>> (x2 &&& 31)) &&& 1)), lI (x2 + 1)]) dX10_bits_18 rfl (by decide) (by decide) rfl ?_
    refine aw_goto (tgt := 4) dX10_bits_21 (by decide) ?_
    exact h
abbrev AX10_tallOf (d : Nat) (Q : Option Int32 → Mem → Prop) (pc : Nat) (L : List (Option Value)) (st : List Value) (M : Mem) : Prop := AW none RX10 cX10_tallOf 3 (some .int) d Q pc L st M
theorem bX10_tallOf_0 {d : Nat} {Q : Option Int32 → Mem → Prop} (M : Mem) (x1 : Int32) (h : (vp_in x1 16) ∧ ((¬ (M 78 (ix x1)) = 4 → AX10_tallOf d Q 57 [lR 77, lI x1, none] [] M) ∧ ((M 78 (ix x1)) = 4 → (vp_in x1 16) ∧ (((M 77 0) ≤ (M 82 (ix x1)) → AX10_tallOf d Q 57 [lR 77, lI x1, none] [] M) ∧ (¬ (M 77 0) ≤ (M 82 (ix x1)) → (vp_in x1 16) ∧ (((M 82 (ix x1)) = x1 → AX10_tallOf d Q 57 [lR 77, lI x1, none] [] M) ∧ (¬ (M 82 (ix x1)) = x1 → (vp_in x1 16) ∧ ((vp_in (M 82 (ix x1)) 16) ∧ (((M 78 (ix (M 82 (ix x1)))) = 4 → AX10_tallOf d Q 57 [lR 77, lI x1, none] [] M) ∧ (¬ (M 78 (ix (M 82 (ix x1)))) = 4 → (vp_in x1 16) ∧ (AX10_tallOf d Q 58 [lR 77, none, none] [.int (M 82 (ix x1))] M))))))))))) : AX10_tallOf d Q 0 [lR 77, lI x1, none] [] M := by
  refine aw_aload_n dX10_tallOf_0 rfl rfl ?_
  refine aw_getf dX10_tallOf_1 fl_X10_7 (by decide) ce_77 rfl (v := .ref 78) rfl ?_
  refine aw_iload_n dX10_tallOf_4 rfl rfl ?_
  obtain ⟨h9, h⟩ := h
  refine aw_iald dX10_tallOf_5 (by decide) ce_78 h9 ?_
  refine aw_iconst (v := 4) dX10_tallOf_6 (by decide) ?_
  refine aw_icmp_ne (tgt := 57) dX10_tallOf_7 (by decide) (fun z => ?_) (fun z => ?_)
  · replace h := h.1 z
    exact h
  · replace h := h.2 z
    refine aw_aload_n dX10_tallOf_10 rfl rfl ?_
    refine aw_getf dX10_tallOf_11 fl_X10_22 (by decide) ce_77 rfl (v := .ref 82) rfl ?_
    refine aw_iload_n dX10_tallOf_14 rfl rfl ?_
    obtain ⟨h9, h⟩ := h
    refine aw_iald dX10_tallOf_15 (by decide) ce_82 h9 ?_
    refine aw_aload_n dX10_tallOf_16 rfl rfl ?_
    refine aw_getf dX10_tallOf_17 fl_X10_138 (by decide) ce_77 rfl (v := .int (M 77 0)) rfl ?_
    refine aw_icmp_ge (tgt := 57) dX10_tallOf_20 (by decide) (fun z => ?_) (fun z => ?_)
    · replace h := h.1 z
      exact h
    · replace h := h.2 z
      refine aw_aload_n dX10_tallOf_23 rfl rfl ?_
      refine aw_getf dX10_tallOf_24 fl_X10_22 (by decide) ce_77 rfl (v := .ref 82) rfl ?_
      refine aw_iload_n dX10_tallOf_27 rfl rfl ?_
      obtain ⟨h9, h⟩ := h
      refine aw_iald dX10_tallOf_28 (by decide) ce_82 h9 ?_
      refine aw_iload_n dX10_tallOf_29 rfl rfl ?_
      refine aw_icmp_eq (tgt := 57) dX10_tallOf_30 (by decide) (fun z => ?_) (fun z => ?_)
      · replace h := h.1 z
        exact h
      · replace h := h.2 z
        refine aw_aload_n dX10_tallOf_33 rfl rfl ?_
        refine aw_getf dX10_tallOf_34 fl_X10_7 (by decide) ce_77 rfl (v := .ref 78) rfl ?_
        refine aw_aload_n dX10_tallOf_37 rfl rfl ?_
        refine aw_getf dX10_tallOf_38 fl_X10_22 (by decide) ce_77 rfl (v := .ref 82) rfl ?_
        refine aw_iload_n dX10_tallOf_41 rfl rfl ?_
        obtain ⟨h9, h⟩ := h
        refine aw_iald dX10_tallOf_42 (by decide) ce_82 h9 ?_
        obtain ⟨h9, h⟩ := h
        refine aw_iald dX10_tallOf_43 (by decide) ce_78 h9 ?_
        refine aw_iconst (v := 4) dX10_tallOf_44 (by decide) ?_
        refine aw_icmp_eq (tgt := 57) dX10_tallOf_45 (by decide) (fun z => ?_) (fun z => ?_)
        · replace h := h.1 z
          exact h
        · replace h := h.2 z
          refine aw_aload_n dX10_tallOf_48 rfl rfl ?_
          refine aw_getf dX10_tallOf_49 fl_X10_22 (by decide) ce_77 rfl (v := .ref 82) rfl ?_
          refine aw_iload_n dX10_tallOf_52 rfl rfl ?_
          obtain ⟨h9, h⟩ := h
          refine aw_iald dX10_tallOf_53 (by decide) ce_82 h9 ?_
          refine aw_goto (tgt := 58) dX10_tallOf_54 (by decide) ?_
          exact aw_less (less_k (less_d (less_k less_nil))) h
theorem bX10_tallOf_57 {d : Nat} {Q : Option Int32 → Mem → Prop} (M : Mem) (x1 : Int32) (h : AX10_tallOf d Q 58 [lR 77, none, none] [.int x1] M) : AX10_tallOf d Q 57 [lR 77, lI x1, none] [] M := by
  refine aw_iload_n dX10_tallOf_57 rfl rfl ?_
  exact aw_less (less_k (less_d (less_k less_nil))) h
theorem bX10_tallOf_58 {d : Nat} {Q : Option Int32 → Mem → Prop} (M : Mem) (s0 : Int32) (h : (vp_in s0 16) ∧ ((vp_in s0 16) ∧ (Q (some ((M 79 (ix s0)) + (M 81 (ix s0)))) M))) : AX10_tallOf d Q 58 [lR 77, none, none] [.int s0] M := by
  refine aw_istore_n (L2 := [lR 77, none, lI s0]) dX10_tallOf_58 rfl (by decide) rfl ?_
  refine aw_aload_n dX10_tallOf_59 rfl rfl ?_
  refine aw_getf dX10_tallOf_60 fl_X10_13 (by decide) ce_77 rfl (v := .ref 79) rfl ?_
  refine aw_iload_n dX10_tallOf_63 rfl rfl ?_
  obtain ⟨h9, h⟩ := h
  refine aw_iald dX10_tallOf_64 (by decide) ce_79 h9 ?_
  refine aw_aload_n dX10_tallOf_65 rfl rfl ?_
  refine aw_getf dX10_tallOf_66 fl_X10_19 (by decide) ce_77 rfl (v := .ref 81) rfl ?_
  refine aw_iload_n dX10_tallOf_69 rfl rfl ?_
  obtain ⟨h9, h⟩ := h
  refine aw_iald dX10_tallOf_70 (by decide) ce_81 h9 ?_
  refine aw_iadd dX10_tallOf_71 ?_
  exact aw_iret dX10_tallOf_72 rfl rfl h
abbrev AX10_leastBy (d : Nat) (Q : Option Int32 → Mem → Prop) (pc : Nat) (L : List (Option Value)) (st : List Value) (M : Mem) : Prop := AW none RX10 cX10_leastBy 5 (some .int) d Q pc L st M
theorem bX10_leastBy_0 {d : Nat} {Q : Option Int32 → Mem → Prop} (M : Mem) (x1 x2 : Int32) (h : AX10_leastBy (d + 1) Q 7 [lR 77, lI x1, lI x2, lI 1000000000, lI 0] [] M) : AX10_leastBy (d + 1) Q 0 [lR 77, lI x1, lI x2, none, none] [] M := by
  refine aw_ldcw dX10_leastBy_0 kc_X10_273 ?_
  refine aw_istore_n (L2 := [lR 77, lI x1, lI x2, lI 1000000000, none]) dX10_leastBy_3 rfl (by decide) rfl ?_
  refine aw_iconst (v := 0) dX10_leastBy_4 (by decide) ?_
  refine aw_istore (L2 := [lR 77, lI x1, lI x2, lI 1000000000, lI 0]) dX10_leastBy_5 (by decide) rfl ?_
  exact h
theorem bX10_leastBy_7 {d : Nat} {Q : Option Int32 → Mem → Prop} (M : Mem) (x1 x2 x3 x4 : Int32) (h : ((M 77 0) ≤ x4 → Q (some x3) M) ∧ (¬ (M 77 0) ≤ x4 → AMi d iX10_has [.int x1, .int x4] M (fun r1 M1 => (r1 = 0 → AX10_leastBy (d + 1) Q 7 [lR 77, lI x1, lI x2, lI x3, lI (x4 + 1)] [] M1) ∧ (¬ r1 = 0 → (vp_in ((16 * x4) + x2) 256) ∧ (AMi d iX10_min [.int x3, .int (M1 98 (ix ((16 * x4) + x2)))] M1 (fun r2 M2 => AX10_leastBy (d + 1) Q 7 [lR 77, lI x1, lI x2, lI r2, lI (x4 + 1)] [] M2)))))) : AX10_leastBy (d + 1) Q 7 [lR 77, lI x1, lI x2, lI x3, lI x4] [] M := by
  refine aw_iload dX10_leastBy_7 rfl ?_
  refine aw_aload_n dX10_leastBy_9 rfl rfl ?_
  refine aw_getf dX10_leastBy_10 fl_X10_138 (by decide) ce_77 rfl (v := .int (M 77 0)) rfl ?_
  refine aw_icmp_ge (tgt := 48) dX10_leastBy_13 (by decide) (fun z => ?_) (fun z => ?_)
  · replace h := h.1 z
    refine aw_iload_n dX10_leastBy_48 rfl rfl ?_
    exact aw_iret dX10_leastBy_49 rfl rfl h
  · replace h := h.2 z
    refine aw_iload_n dX10_leastBy_16 rfl rfl ?_
    refine aw_iload dX10_leastBy_17 rfl ?_
    refine aw_callS (mi := iX10_has) (av := [.int x1, .int x4]) (st := []) dX10_leastBy_19 ml_X10_148 kX10_has rfl rfl (by decide) (AM.mono h (fun r9 M1 h => ?_))
    obtain ⟨r1, rfl, h⟩ := h
    refine aw_if_eq (tgt := 42) dX10_leastBy_22 (by decide) (fun z => ?_) (fun z => ?_)
    · replace h := h.1 z
      refine aw_iinc (y := 1) (L2 := [lR 77, lI x1, lI x2, lI x3, lI (x4 + 1)]) dX10_leastBy_42 rfl (by decide) (by decide) rfl ?_
      refine aw_goto (tgt := 7) dX10_leastBy_45 (by decide) ?_
      exact h
    · replace h := h.2 z
      refine aw_iload_n dX10_leastBy_25 rfl rfl ?_
      refine aw_aload_n dX10_leastBy_26 rfl rfl ?_
      refine aw_getf dX10_leastBy_27 fl_X10_71 (by decide) ce_77 rfl (v := .ref 98) rfl ?_
      refine aw_bipush (v := 16) dX10_leastBy_30 (by decide) ?_
      refine aw_iload dX10_leastBy_32 rfl ?_
      refine aw_imul dX10_leastBy_34 ?_
      refine aw_iload_n dX10_leastBy_35 rfl rfl ?_
      refine aw_iadd dX10_leastBy_36 ?_
      obtain ⟨h9, h⟩ := h
      refine aw_iald dX10_leastBy_37 (by decide) ce_98 h9 ?_
      refine aw_callS (mi := iX10_min) (av := [.int x3, .int (M1 98 (ix ((16 * x4) + x2)))]) (st := []) dX10_leastBy_38 ml_X10_289 kX10_min rfl rfl (by decide) (AM.mono h (fun r9 M2 h => ?_))
      obtain ⟨r2, rfl, h⟩ := h
      refine aw_istore_n (L2 := [lR 77, lI x1, lI x2, lI r2, lI x4]) dX10_leastBy_41 rfl (by decide) rfl ?_
      refine aw_iinc (y := 1) (L2 := [lR 77, lI x1, lI x2, lI r2, lI (x4 + 1)]) dX10_leastBy_42 rfl (by decide) (by decide) rfl ?_
      refine aw_goto (tgt := 7) dX10_leastBy_45 (by decide) ?_
      exact h
