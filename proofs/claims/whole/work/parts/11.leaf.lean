abbrev AX10_in (d : Nat) (Q : Option Int32 → Mem → Prop) (pc : Nat) (L : List (Option Value)) (st : List Value) (M : Mem) : Prop := AW none RX10 cX10_in 3 (some .boolean) d Q pc L st M
theorem eX10_in {d : Nat} {Q : Option Int32 → Mem → Prop} (M : Mem) (x0 x1 x2 : Int32) (h : AX10_in d Q 0 [lI x0, lI x1, lI x2] [] M) : AM d iX10_in [.int x0, .int x1, .int x2] M Q := AM.of2 (by decide) rfl rfl h
theorem bX10_in_0 {d : Nat} {Q : Option Int32 → Mem → Prop} (M : Mem) (x0 x1 x2 : Int32) (h : (x0 < x1 → Q (some 0) M) ∧ (¬ x0 < x1 → (x2 < x0 → Q (some 0) M) ∧ (¬ x2 < x0 → Q (some 1) M))) : AX10_in d Q 0 [lI x0, lI x1, lI x2] [] M := by
  refine aw_iload_n dX10_in_0 rfl rfl ?_
  refine aw_iload_n dX10_in_1 rfl rfl ?_
  refine aw_icmp_lt (tgt := 14) dX10_in_2 (by decide) (fun z => ?_) (fun z => ?_)
  · replace h := h.1 z
    refine aw_iconst (v := 0) dX10_in_14 (by decide) ?_
    exact aw_iret dX10_in_15 rfl (nar_b (by decide)) h
  · replace h := h.2 z
    refine aw_iload_n dX10_in_5 rfl rfl ?_
    refine aw_iload_n dX10_in_6 rfl rfl ?_
    refine aw_icmp_gt (tgt := 14) dX10_in_7 (by decide) (fun z => ?_) (fun z => ?_)
    · replace h := h.1 z
      refine aw_iconst (v := 0) dX10_in_14 (by decide) ?_
      exact aw_iret dX10_in_15 rfl (nar_b (by decide)) h
    · replace h := h.2 z
      refine aw_iconst (v := 1) dX10_in_10 (by decide) ?_
      refine aw_goto (tgt := 15) dX10_in_11 (by decide) ?_
      exact aw_iret dX10_in_15 rfl (nar_b (by decide)) h
abbrev AX10_min (d : Nat) (Q : Option Int32 → Mem → Prop) (pc : Nat) (L : List (Option Value)) (st : List Value) (M : Mem) : Prop := AW none RX10 cX10_min 2 (some .int) d Q pc L st M
theorem eX10_min {d : Nat} {Q : Option Int32 → Mem → Prop} (M : Mem) (x0 x1 : Int32) (h : AX10_min d Q 0 [lI x0, lI x1] [] M) : AM d iX10_min [.int x0, .int x1] M Q := AM.of2 (by decide) rfl rfl h
theorem bX10_min_0 {d : Nat} {Q : Option Int32 → Mem → Prop} (M : Mem) (x0 x1 : Int32) (h : (x1 ≤ x0 → Q (some x1) M) ∧ (¬ x1 ≤ x0 → Q (some x0) M)) : AX10_min d Q 0 [lI x0, lI x1] [] M := by
  refine aw_iload_n dX10_min_0 rfl rfl ?_
  refine aw_iload_n dX10_min_1 rfl rfl ?_
  refine aw_icmp_ge (tgt := 9) dX10_min_2 (by decide) (fun z => ?_) (fun z => ?_)
  · replace h := h.1 z
    refine aw_iload_n dX10_min_9 rfl rfl ?_
    exact aw_iret dX10_min_10 rfl rfl h
  · replace h := h.2 z
    refine aw_iload_n dX10_min_5 rfl rfl ?_
    refine aw_goto (tgt := 10) dX10_min_6 (by decide) ?_
    exact aw_iret dX10_min_10 rfl rfl h
abbrev AX10_has (d : Nat) (Q : Option Int32 → Mem → Prop) (pc : Nat) (L : List (Option Value)) (st : List Value) (M : Mem) : Prop := AW none RX10 cX10_has 2 (some .boolean) d Q pc L st M
theorem eX10_has {d : Nat} {Q : Option Int32 → Mem → Prop} (M : Mem) (x0 x1 : Int32) (h : AX10_has d Q 0 [lI x0, lI x1] [] M) : AM d iX10_has [.int x0, .int x1] M Q := AM.of2 (by decide) rfl rfl h
theorem bX10_has_0 {d : Nat} {Q : Option Int32 → Mem → Prop} (M : Mem) (x0 x1 : Int32) (h : (¬ ((x0 >>> (x1 &&& 31)) &&& 1) = 1 → Q (some 0) M) ∧ (((x0 >>> (x1 &&& 31)) &&& 1) = 1 → Q (some 1) M)) : AX10_has d Q 0 [lI x0, lI x1] [] M := by
  refine aw_iload_n dX10_has_0 rfl rfl ?_
  refine aw_iload_n dX10_has_1 rfl rfl ?_
  refine aw_ishr dX10_has_2 ?_
  refine aw_iconst (v := 1) dX10_has_3 (by decide) ?_
  refine aw_iand dX10_has_4 ?_
  refine aw_iconst (v := 1) dX10_has_5 (by decide) ?_
  refine aw_icmp_ne (tgt := 13) dX10_has_6 (by decide) (fun z => ?_) (fun z => ?_)
  · replace h := h.1 z
    refine aw_iconst (v := 0) dX10_has_13 (by decide) ?_
    exact aw_iret dX10_has_14 rfl (nar_b (by decide)) h
  · replace h := h.2 z
    refine aw_iconst (v := 1) dX10_has_9 (by decide) ?_
    refine aw_goto (tgt := 14) dX10_has_10 (by decide) ?_
    exact aw_iret dX10_has_14 rfl (nar_b (by decide)) h
abbrev AX10_bits (d : Nat) (Q : Option Int32 → Mem → Prop) (pc : Nat) (L : List (Option Value)) (st : List Value) (M : Mem) : Prop := AW none RX10 cX10_bits 3 (some .int) d Q pc L st M
theorem eX10_bits {d : Nat} {Q : Option Int32 → Mem → Prop} (M : Mem) (x0 : Int32) (h : AX10_bits d Q 0 [lI x0, none, none] [] M) : AM d iX10_bits [.int x0] M Q := AM.of2 (by decide) rfl rfl h
theorem bX10_bits_0 {d : Nat} {Q : Option Int32 → Mem → Prop} (M : Mem) (x0 : Int32) (h : AX10_bits d Q 4 [lI x0, lI 0, lI 0] [] M) : AX10_bits d Q 0 [lI x0, none, none] [] M := by
  refine aw_iconst (v := 0) dX10_bits_0 (by decide) ?_
  refine aw_istore_n (L2 := [lI x0, lI 0, none]) dX10_bits_1 rfl (by decide) rfl ?_
  refine aw_iconst (v := 0) dX10_bits_2 (by decide) ?_
  refine aw_istore_n (L2 := [lI x0, lI 0, lI 0]) dX10_bits_3 rfl (by decide) rfl ?_
  exact h
theorem bX10_bits_4 {d : Nat} {Q : Option Int32 → Mem → Prop} (M : Mem) (x0 x1 x2 : Int32) (h : (16 ≤ x2 → Q (some x1) M) ∧ (¬ 16 ≤ x2 → AX10_bits d Q 4 [lI x0, lI (x1 + ((x0 >>> (x2 &&& 31)) &&& 1)), lI (x2 + 1)] [] M)) : AX10_bits d Q 4 [lI x0, lI x1, lI x2] [] M := by
  refine aw_iload_n dX10_bits_4 rfl rfl ?_
  refine aw_bipush (v := 16) dX10_bits_5 (by decide) ?_
  refine aw_icmp_ge (tgt := 24) dX10_bits_7 (by decide) (fun z => ?_) (fun z => ?_)
  · replace h := h.1 z
    refine aw_iload_n dX10_bits_24 rfl rfl ?_
    exact aw_iret dX10_bits_25 rfl rfl h
  · replace h := h.2 z
    refine aw_iload_n dX10_bits_10 rfl rfl ?_
    refine aw_iload_n dX10_bits_11 rfl rfl ?_
    refine aw_iload_n dX10_bits_12 rfl rfl ?_
    refine aw_ishr dX10_bits_13 ?_
    refine aw_iconst (v := 1) dX10_bits_14 (by decide) ?_
    refine aw_iand dX10_bits_15 ?_
    refine aw_iadd dX10_bits_16 ?_
    refine aw_istore_n (L2 := [lI x0, lI (x1 + ((x0 >>> (x2 &&& 31)) &&& 1)), lI x2]) dX10_bits_17 rfl (by decide) rfl ?_
    refine aw_iinc (y := 1) (L2 := [lI x0, lI (x1 + ((x0 >>> (x2 &&& 31)) &&& 1)), lI (x2 + 1)]) dX10_bits_18 rfl (by decide) (by decide) rfl ?_
    refine aw_goto (tgt := 4) dX10_bits_21 (by decide) ?_
    exact h
abbrev AX10_isPerson (d : Nat) (Q : Option Int32 → Mem → Prop) (pc : Nat) (L : List (Option Value)) (st : List Value) (M : Mem) : Prop := AW none RX10 cX10_isPerson 2 (some .boolean) d Q pc L st M
theorem eX10_isPerson {d : Nat} {Q : Option Int32 → Mem → Prop} (M : Mem) (x1 : Int32) (h : AX10_isPerson d Q 0 [lR 77, lI x1] [] M) : AM d iX10_isPerson [.ref 77, .int x1] M Q := AM.of2 (by decide) rfl rfl h
theorem bX10_isPerson_0 {d : Nat} {Q : Option Int32 → Mem → Prop} (M : Mem) (x1 : Int32) (h : (x1 < 0 → Q (some 0) M) ∧ (¬ x1 < 0 → ((M 77 0) ≤ x1 → Q (some 0) M) ∧ (¬ (M 77 0) ≤ x1 → Q (some 1) M))) : AX10_isPerson d Q 0 [lR 77, lI x1] [] M := by
  refine aw_iload_n dX10_isPerson_0 rfl rfl ?_
  refine aw_if_lt (tgt := 16) dX10_isPerson_1 (by decide) (fun z => ?_) (fun z => ?_)
  · replace h := h.1 z
    refine aw_iconst (v := 0) dX10_isPerson_16 (by decide) ?_
    exact aw_iret dX10_isPerson_17 rfl (nar_b (by decide)) h
  · replace h := h.2 z
    refine aw_iload_n dX10_isPerson_4 rfl rfl ?_
    refine aw_aload_n dX10_isPerson_5 rfl rfl ?_
    refine aw_getf dX10_isPerson_6 fl_X10_138 (by decide) ce_77 rfl (v := .int (M 77 0)) rfl ?_
    refine aw_icmp_ge (tgt := 16) dX10_isPerson_9 (by decide) (fun z => ?_) (fun z => ?_)
    · replace h := h.1 z
      refine aw_iconst (v := 0) dX10_isPerson_16 (by decide) ?_
      exact aw_iret dX10_isPerson_17 rfl (nar_b (by decide)) h
    · replace h := h.2 z
      refine aw_iconst (v := 1) dX10_isPerson_12 (by decide) ?_
      refine aw_goto (tgt := 17) dX10_isPerson_13 (by decide) ?_
      exact aw_iret dX10_isPerson_17 rfl (nar_b (by decide)) h
abbrev AX10_isOath (d : Nat) (Q : Option Int32 → Mem → Prop) (pc : Nat) (L : List (Option Value)) (st : List Value) (M : Mem) : Prop := AW none RX10 cX10_isOath 2 (some .boolean) d Q pc L st M
theorem eX10_isOath {d : Nat} {Q : Option Int32 → Mem → Prop} (M : Mem) (x1 : Int32) (h : AX10_isOath d Q 0 [lR 77, lI x1] [] M) : AM d iX10_isOath [.ref 77, .int x1] M Q := AM.of2 (by decide) rfl rfl h
theorem bX10_isOath_0 {d : Nat} {Q : Option Int32 → Mem → Prop} (M : Mem) (x1 : Int32) (h : (x1 < 0 → Q (some 0) M) ∧ (¬ x1 < 0 → ((M 77 34) ≤ x1 → Q (some 0) M) ∧ (¬ (M 77 34) ≤ x1 → Q (some 1) M))) : AX10_isOath d Q 0 [lR 77, lI x1] [] M := by
  refine aw_iload_n dX10_isOath_0 rfl rfl ?_
  refine aw_if_lt (tgt := 16) dX10_isOath_1 (by decide) (fun z => ?_) (fun z => ?_)
  · replace h := h.1 z
    refine aw_iconst (v := 0) dX10_isOath_16 (by decide) ?_
    exact aw_iret dX10_isOath_17 rfl (nar_b (by decide)) h
  · replace h := h.2 z
    refine aw_iload_n dX10_isOath_4 rfl rfl ?_
    refine aw_aload_n dX10_isOath_5 rfl rfl ?_
    refine aw_getf dX10_isOath_6 fl_X10_286 (by decide) ce_77 rfl (v := .int (M 77 34)) rfl ?_
    refine aw_icmp_ge (tgt := 16) dX10_isOath_9 (by decide) (fun z => ?_) (fun z => ?_)
    · replace h := h.1 z
      refine aw_iconst (v := 0) dX10_isOath_16 (by decide) ?_
      exact aw_iret dX10_isOath_17 rfl (nar_b (by decide)) h
    · replace h := h.2 z
      refine aw_iconst (v := 1) dX10_isOath_12 (by decide) ?_
      refine aw_goto (tgt := 17) dX10_isOath_13 (by decide) ?_
      exact aw_iret dX10_isOath_17 rfl (nar_b (by decide)) h
abbrev AX10_areYears (d : Nat) (Q : Option Int32 → Mem → Prop) (pc : Nat) (L : List (Option Value)) (st : List Value) (M : Mem) : Prop := AW none RX10 cX10_areYears 1 (some .boolean) d Q pc L st M
theorem eX10_areYears {d : Nat} {Q : Option Int32 → Mem → Prop} (M : Mem) (x0 : Int32) (h : AX10_areYears d Q 0 [lI x0] [] M) : AM d iX10_areYears [.int x0] M Q := AM.of2 (by decide) rfl rfl h
theorem bX10_areYears_0 {d : Nat} {Q : Option Int32 → Mem → Prop} (M : Mem) (x0 : Int32) (h : (x0 ≤ 0 → Q (some 0) M) ∧ (¬ x0 ≤ 0 → (61 ≤ x0 → Q (some 0) M) ∧ (¬ 61 ≤ x0 → Q (some 1) M))) : AX10_areYears d Q 0 [lI x0] [] M := by
  refine aw_iload_n dX10_areYears_0 rfl rfl ?_
  refine aw_if_le (tgt := 14) dX10_areYears_1 (by decide) (fun z => ?_) (fun z => ?_)
  · replace h := h.1 z
    refine aw_iconst (v := 0) dX10_areYears_14 (by decide) ?_
    exact aw_iret dX10_areYears_15 rfl (nar_b (by decide)) h
  · replace h := h.2 z
    refine aw_iload_n dX10_areYears_4 rfl rfl ?_
    refine aw_bipush (v := 61) dX10_areYears_5 (by decide) ?_
    refine aw_icmp_ge (tgt := 14) dX10_areYears_7 (by decide) (fun z => ?_) (fun z => ?_)
    · replace h := h.1 z
      refine aw_iconst (v := 0) dX10_areYears_14 (by decide) ?_
      exact aw_iret dX10_areYears_15 rfl (nar_b (by decide)) h
    · replace h := h.2 z
      refine aw_iconst (v := 1) dX10_areYears_10 (by decide) ?_
      refine aw_goto (tgt := 15) dX10_areYears_11 (by decide) ?_
      exact aw_iret dX10_areYears_15 rfl (nar_b (by decide)) h
abbrev AX10_isStep (d : Nat) (Q : Option Int32 → Mem → Prop) (pc : Nat) (L : List (Option Value)) (st : List Value) (M : Mem) : Prop := AW none RX10 cX10_isStep 3 (some .boolean) d Q pc L st M
theorem eX10_isStep {d : Nat} {Q : Option Int32 → Mem → Prop} (M : Mem) (x1 x2 : Int32) (h : AX10_isStep d Q 0 [lR 77, lI x1, lI x2] [] M) : AM d iX10_isStep [.ref 77, .int x1, .int x2] M Q := AM.of2 (by decide) rfl rfl h
theorem bX10_isStep_0 {d : Nat} {Q : Option Int32 → Mem → Prop} (M : Mem) (x1 x2 : Int32) (h : (vp_in ((16 * x1) + x2) 256) ∧ ((1000000000 ≤ (M 98 (ix ((16 * x1) + x2))) → Q (some 0) M) ∧ (¬ 1000000000 ≤ (M 98 (ix ((16 * x1) + x2))) → Q (some 1) M))) : AX10_isStep d Q 0 [lR 77, lI x1, lI x2] [] M := by
  refine aw_aload_n dX10_isStep_0 rfl rfl ?_
  refine aw_getf dX10_isStep_1 fl_X10_71 (by decide) ce_77 rfl (v := .ref 98) rfl ?_
  refine aw_bipush (v := 16) dX10_isStep_4 (by decide) ?_
  refine aw_iload_n dX10_isStep_6 rfl rfl ?_
  refine aw_imul dX10_isStep_7 ?_
  refine aw_iload_n dX10_isStep_8 rfl rfl ?_
  refine aw_iadd dX10_isStep_9 ?_
  obtain ⟨h9, h⟩ := h
  refine aw_iald dX10_isStep_10 (by decide) ce_98 h9 ?_
  refine aw_ldcw dX10_isStep_11 kc_X10_273 ?_
  refine aw_icmp_ge (tgt := 21) dX10_isStep_14 (by decide) (fun z => ?_) (fun z => ?_)
  · replace h := h.1 z
    refine aw_iconst (v := 0) dX10_isStep_21 (by decide) ?_
    exact aw_iret dX10_isStep_22 rfl (nar_b (by decide)) h
  · replace h := h.2 z
    refine aw_iconst (v := 1) dX10_isStep_17 (by decide) ?_
    refine aw_goto (tgt := 22) dX10_isStep_18 (by decide) ?_
    exact aw_iret dX10_isStep_22 rfl (nar_b (by decide)) h
abbrev AX10_factOf (d : Nat) (Q : Option Int32 → Mem → Prop) (pc : Nat) (L : List (Option Value)) (st : List Value) (M : Mem) : Prop := AW none RX10 cX10_factOf 1 (some .int) d Q pc L st M
theorem eX10_factOf {d : Nat} {Q : Option Int32 → Mem → Prop} (M : Mem) (x0 : Int32) (h : AX10_factOf d Q 0 [lI x0] [] M) : AM d iX10_factOf [.int x0] M Q := AM.of2 (by decide) rfl rfl h
theorem bX10_factOf_0 {d : Nat} {Q : Option Int32 → Mem → Prop} (M : Mem) (x0 : Int32) (h : (Int32.toInt x0 < 97 ∨ 122 < Int32.toInt x0 → Q (some (-1)) M) ∧ (x0 = 97 → Q (some 0) M) ∧ (x0 = 98 → Q (some 6) M) ∧ (x0 = 99 → Q (some (-1)) M) ∧ (x0 = 100 → Q (some (-1)) M) ∧ (x0 = 101 → Q (some (-1)) M) ∧ (x0 = 102 → Q (some (-1)) M) ∧ (x0 = 103 → Q (some (-1)) M) ∧ (x0 = 104 → Q (some 3) M) ∧ (x0 = 105 → Q (some 1) M) ∧ (x0 = 106 → Q (some 7) M) ∧ (x0 = 107 → Q (some 4) M) ∧ (x0 = 108 → Q (some 9) M) ∧ (x0 = 109 → Q (some (-1)) M) ∧ (x0 = 110 → Q (some (-1)) M) ∧ (x0 = 111 → Q (some (-1)) M) ∧ (x0 = 112 → Q (some (-1)) M) ∧ (x0 = 113 → Q (some 5) M) ∧ (x0 = 114 → Q (some 11) M) ∧ (x0 = 115 → Q (some (-1)) M) ∧ (x0 = 116 → Q (some 10) M) ∧ (x0 = 117 → Q (some (-1)) M) ∧ (x0 = 118 → Q (some (-1)) M) ∧ (x0 = 119 → Q (some (-1)) M) ∧ (x0 = 120 → Q (some (-1)) M) ∧ (x0 = 121 → Q (some 2) M) ∧ (x0 = 122 → Q (some 8) M)) : AX10_factOf d Q 0 [lI x0] [] M := by
  refine aw_iload_n dX10_factOf_0 rfl rfl ?_
  rcases Classical.em (Int32.toInt x0 < 97 ∨ 122 < Int32.toInt x0) with z | z
  · replace h := h.1 z
    refine aw_tableOut (tgt := 150) dX10_factOf_1 z (by decide) ?_
    refine aw_iconst (v := (-1)) dX10_factOf_150 (by decide) ?_
    exact aw_iret dX10_factOf_151 rfl rfl h
  replace h := h.2
  rcases Classical.em (x0 = 97) with y | y
  · replace h := h.1 y
    refine aw_tableIn (off := 119) (tgt := 120) dX10_factOf_1 (by rw [y]; decide) (by rw [y]; decide) (by rw [y]; rfl) (by decide) ?_
    refine aw_iconst (v := 0) dX10_factOf_120 (by decide) ?_
    exact aw_iret dX10_factOf_121 rfl rfl h
  replace h := h.2
  rename ¬ _ = _ => y0
  rcases Classical.em (x0 = 98) with y | y
  · replace h := h.1 y
    refine aw_tableIn (off := 131) (tgt := 132) dX10_factOf_1 (by rw [y]; decide) (by rw [y]; decide) (by rw [y]; rfl) (by decide) ?_
    refine aw_bipush (v := 6) dX10_factOf_132 (by decide) ?_
    exact aw_iret dX10_factOf_134 rfl rfl h
  replace h := h.2
  rename ¬ _ = _ => y1
  rcases Classical.em (x0 = 99) with y | y
  · replace h := h.1 y
    refine aw_tableIn (off := 149) (tgt := 150) dX10_factOf_1 (by rw [y]; decide) (by rw [y]; decide) (by rw [y]; rfl) (by decide) ?_
    refine aw_iconst (v := (-1)) dX10_factOf_150 (by decide) ?_
    exact aw_iret dX10_factOf_151 rfl rfl h
  replace h := h.2
  rename ¬ _ = _ => y2
  rcases Classical.em (x0 = 100) with y | y
  · replace h := h.1 y
    refine aw_tableIn (off := 149) (tgt := 150) dX10_factOf_1 (by rw [y]; decide) (by rw [y]; decide) (by rw [y]; rfl) (by decide) ?_
    refine aw_iconst (v := (-1)) dX10_factOf_150 (by decide) ?_
    exact aw_iret dX10_factOf_151 rfl rfl h
  replace h := h.2
  rename ¬ _ = _ => y3
  rcases Classical.em (x0 = 101) with y | y
  · replace h := h.1 y
    refine aw_tableIn (off := 149) (tgt := 150) dX10_factOf_1 (by rw [y]; decide) (by rw [y]; decide) (by rw [y]; rfl) (by decide) ?_
    refine aw_iconst (v := (-1)) dX10_factOf_150 (by decide) ?_
    exact aw_iret dX10_factOf_151 rfl rfl h
  replace h := h.2
  rename ¬ _ = _ => y4
  rcases Classical.em (x0 = 102) with y | y
  · replace h := h.1 y
    refine aw_tableIn (off := 149) (tgt := 150) dX10_factOf_1 (by rw [y]; decide) (by rw [y]; decide) (by rw [y]; rfl) (by decide) ?_
    refine aw_iconst (v := (-1)) dX10_factOf_150 (by decide) ?_
    exact aw_iret dX10_factOf_151 rfl rfl h
  replace h := h.2
  rename ¬ _ = _ => y5
  rcases Classical.em (x0 = 103) with y | y
  · replace h := h.1 y
    refine aw_tableIn (off := 149) (tgt := 150) dX10_factOf_1 (by rw [y]; decide) (by rw [y]; decide) (by rw [y]; rfl) (by decide) ?_
    refine aw_iconst (v := (-1)) dX10_factOf_150 (by decide) ?_
    exact aw_iret dX10_factOf_151 rfl rfl h
  replace h := h.2
  rename ¬ _ = _ => y6
  rcases Classical.em (x0 = 104) with y | y
  · replace h := h.1 y
    refine aw_tableIn (off := 125) (tgt := 126) dX10_factOf_1 (by rw [y]; decide) (by rw [y]; decide) (by rw [y]; rfl) (by decide) ?_
    refine aw_iconst (v := 3) dX10_factOf_126 (by decide) ?_
    exact aw_iret dX10_factOf_127 rfl rfl h
  replace h := h.2
  rename ¬ _ = _ => y7
  rcases Classical.em (x0 = 105) with y | y
  · replace h := h.1 y
    refine aw_tableIn (off := 121) (tgt := 122) dX10_factOf_1 (by rw [y]; decide) (by rw [y]; decide) (by rw [y]; rfl) (by decide) ?_
    refine aw_iconst (v := 1) dX10_factOf_122 (by decide) ?_
    exact aw_iret dX10_factOf_123 rfl rfl h
  replace h := h.2
  rename ¬ _ = _ => y8
  rcases Classical.em (x0 = 106) with y | y
  · replace h := h.1 y
    refine aw_tableIn (off := 134) (tgt := 135) dX10_factOf_1 (by rw [y]; decide) (by rw [y]; decide) (by rw [y]; rfl) (by decide) ?_
    refine aw_bipush (v := 7) dX10_factOf_135 (by decide) ?_
    exact aw_iret dX10_factOf_137 rfl rfl h
  replace h := h.2
  rename ¬ _ = _ => y9
  rcases Classical.em (x0 = 107) with y | y
  · replace h := h.1 y
    refine aw_tableIn (off := 127) (tgt := 128) dX10_factOf_1 (by rw [y]; decide) (by rw [y]; decide) (by rw [y]; rfl) (by decide) ?_
    refine aw_iconst (v := 4) dX10_factOf_128 (by decide) ?_
    exact aw_iret dX10_factOf_129 rfl rfl h
  replace h := h.2
  rename ¬ _ = _ => y10
  rcases Classical.em (x0 = 108) with y | y
  · replace h := h.1 y
    refine aw_tableIn (off := 140) (tgt := 141) dX10_factOf_1 (by rw [y]; decide) (by rw [y]; decide) (by rw [y]; rfl) (by decide) ?_
    refine aw_bipush (v := 9) dX10_factOf_141 (by decide) ?_
    exact aw_iret dX10_factOf_143 rfl rfl h
  replace h := h.2
  rename ¬ _ = _ => y11
  rcases Classical.em (x0 = 109) with y | y
  · replace h := h.1 y
    refine aw_tableIn (off := 149) (tgt := 150) dX10_factOf_1 (by rw [y]; decide) (by rw [y]; decide) (by rw [y]; rfl) (by decide) ?_
    refine aw_iconst (v := (-1)) dX10_factOf_150 (by decide) ?_
    exact aw_iret dX10_factOf_151 rfl rfl h
  replace h := h.2
  rename ¬ _ = _ => y12
  rcases Classical.em (x0 = 110) with y | y
  · replace h := h.1 y
    refine aw_tableIn (off := 149) (tgt := 150) dX10_factOf_1 (by rw [y]; decide) (by rw [y]; decide) (by rw [y]; rfl) (by decide) ?_
    refine aw_iconst (v := (-1)) dX10_factOf_150 (by decide) ?_
    exact aw_iret dX10_factOf_151 rfl rfl h
  replace h := h.2
  rename ¬ _ = _ => y13
  rcases Classical.em (x0 = 111) with y | y
  · replace h := h.1 y
    refine aw_tableIn (off := 149) (tgt := 150) dX10_factOf_1 (by rw [y]; decide) (by rw [y]; decide) (by rw [y]; rfl) (by decide) ?_
    refine aw_iconst (v := (-1)) dX10_factOf_150 (by decide) ?_
    exact aw_iret dX10_factOf_151 rfl rfl h
  replace h := h.2
  rename ¬ _ = _ => y14
  rcases Classical.em (x0 = 112) with y | y
  · replace h := h.1 y
    refine aw_tableIn (off := 149) (tgt := 150) dX10_factOf_1 (by rw [y]; decide) (by rw [y]; decide) (by rw [y]; rfl) (by decide) ?_
    refine aw_iconst (v := (-1)) dX10_factOf_150 (by decide) ?_
    exact aw_iret dX10_factOf_151 rfl rfl h
  replace h := h.2
  rename ¬ _ = _ => y15
  rcases Classical.em (x0 = 113) with y | y
  · replace h := h.1 y
    refine aw_tableIn (off := 129) (tgt := 130) dX10_factOf_1 (by rw [y]; decide) (by rw [y]; decide) (by rw [y]; rfl) (by decide) ?_
    refine aw_iconst (v := 5) dX10_factOf_130 (by decide) ?_
    exact aw_iret dX10_factOf_131 rfl rfl h
  replace h := h.2
  rename ¬ _ = _ => y16
  rcases Classical.em (x0 = 114) with y | y
  · replace h := h.1 y
    refine aw_tableIn (off := 146) (tgt := 147) dX10_factOf_1 (by rw [y]; decide) (by rw [y]; decide) (by rw [y]; rfl) (by decide) ?_
    refine aw_bipush (v := 11) dX10_factOf_147 (by decide) ?_
    exact aw_iret dX10_factOf_149 rfl rfl h
  replace h := h.2
  rename ¬ _ = _ => y17
  rcases Classical.em (x0 = 115) with y | y
  · replace h := h.1 y
    refine aw_tableIn (off := 149) (tgt := 150) dX10_factOf_1 (by rw [y]; decide) (by rw [y]; decide) (by rw [y]; rfl) (by decide) ?_
    refine aw_iconst (v := (-1)) dX10_factOf_150 (by decide) ?_
    exact aw_iret dX10_factOf_151 rfl rfl h
  replace h := h.2
  rename ¬ _ = _ => y18
  rcases Classical.em (x0 = 116) with y | y
  · replace h := h.1 y
    refine aw_tableIn (off := 143) (tgt := 144) dX10_factOf_1 (by rw [y]; decide) (by rw [y]; decide) (by rw [y]; rfl) (by decide) ?_
    refine aw_bipush (v := 10) dX10_factOf_144 (by decide) ?_
    exact aw_iret dX10_factOf_146 rfl rfl h
  replace h := h.2
  rename ¬ _ = _ => y19
  rcases Classical.em (x0 = 117) with y | y
  · replace h := h.1 y
    refine aw_tableIn (off := 149) (tgt := 150) dX10_factOf_1 (by rw [y]; decide) (by rw [y]; decide) (by rw [y]; rfl) (by decide) ?_
    refine aw_iconst (v := (-1)) dX10_factOf_150 (by decide) ?_
    exact aw_iret dX10_factOf_151 rfl rfl h
  replace h := h.2
  rename ¬ _ = _ => y20
  rcases Classical.em (x0 = 118) with y | y
  · replace h := h.1 y
    refine aw_tableIn (off := 149) (tgt := 150) dX10_factOf_1 (by rw [y]; decide) (by rw [y]; decide) (by rw [y]; rfl) (by decide) ?_
    refine aw_iconst (v := (-1)) dX10_factOf_150 (by decide) ?_
    exact aw_iret dX10_factOf_151 rfl rfl h
  replace h := h.2
  rename ¬ _ = _ => y21
  rcases Classical.em (x0 = 119) with y | y
  · replace h := h.1 y
    refine aw_tableIn (off := 149) (tgt := 150) dX10_factOf_1 (by rw [y]; decide) (by rw [y]; decide) (by rw [y]; rfl) (by decide) ?_
    refine aw_iconst (v := (-1)) dX10_factOf_150 (by decide) ?_
    exact aw_iret dX10_factOf_151 rfl rfl h
  replace h := h.2
  rename ¬ _ = _ => y22
  rcases Classical.em (x0 = 120) with y | y
  · replace h := h.1 y
    refine aw_tableIn (off := 149) (tgt := 150) dX10_factOf_1 (by rw [y]; decide) (by rw [y]; decide) (by rw [y]; rfl) (by decide) ?_
    refine aw_iconst (v := (-1)) dX10_factOf_150 (by decide) ?_
    exact aw_iret dX10_factOf_151 rfl rfl h
  replace h := h.2
  rename ¬ _ = _ => y23
  rcases Classical.em (x0 = 121) with y | y
  · replace h := h.1 y
    refine aw_tableIn (off := 123) (tgt := 124) dX10_factOf_1 (by rw [y]; decide) (by rw [y]; decide) (by rw [y]; rfl) (by decide) ?_
    refine aw_iconst (v := 2) dX10_factOf_124 (by decide) ?_
    exact aw_iret dX10_factOf_125 rfl rfl h
  replace h := h.2
  rename ¬ _ = _ => y24
  have y : x0 = 122 := Int32.toInt_inj.mp (by have e := z; have q0 := lv_neT (a := 97) y0 (by decide); have q1 := lv_neT (a := 98) y1 (by decide); have q2 := lv_neT (a := 99) y2 (by decide); have q3 := lv_neT (a := 100) y3 (by decide); have q4 := lv_neT (a := 101) y4 (by decide); have q5 := lv_neT (a := 102) y5 (by decide); have q6 := lv_neT (a := 103) y6 (by decide); have q7 := lv_neT (a := 104) y7 (by decide); have q8 := lv_neT (a := 105) y8 (by decide); have q9 := lv_neT (a := 106) y9 (by decide); have q10 := lv_neT (a := 107) y10 (by decide); have q11 := lv_neT (a := 108) y11 (by decide); have q12 := lv_neT (a := 109) y12 (by decide); have q13 := lv_neT (a := 110) y13 (by decide); have q14 := lv_neT (a := 111) y14 (by decide); have q15 := lv_neT (a := 112) y15 (by decide); have q16 := lv_neT (a := 113) y16 (by decide); have q17 := lv_neT (a := 114) y17 (by decide); have q18 := lv_neT (a := 115) y18 (by decide); have q19 := lv_neT (a := 116) y19 (by decide); have q20 := lv_neT (a := 117) y20 (by decide); have q21 := lv_neT (a := 118) y21 (by decide); have q22 := lv_neT (a := 119) y22 (by decide); have q23 := lv_neT (a := 120) y23 (by decide); have q24 := lv_neT (a := 121) y24 (by decide); show _ = (122 : Int); omega)
  replace h := h y
  refine aw_tableIn (off := 137) (tgt := 138) dX10_factOf_1 (by rw [y]; decide) (by rw [y]; decide) (by rw [y]; rfl) (by decide) ?_
  refine aw_bipush (v := 8) dX10_factOf_138 (by decide) ?_
  exact aw_iret dX10_factOf_140 rfl rfl h
abbrev AX10_sumSign (d : Nat) (Q : Option Int32 → Mem → Prop) (pc : Nat) (L : List (Option Value)) (st : List Value) (M : Mem) : Prop := AW none RX10 cX10_sumSign 1 (some .int) d Q pc L st M
theorem eX10_sumSign {d : Nat} {Q : Option Int32 → Mem → Prop} (M : Mem) (x0 : Int32) (h : AX10_sumSign d Q 0 [lI x0] [] M) : AM d iX10_sumSign [.int x0] M Q := AM.of2 (by decide) rfl rfl h
theorem bX10_sumSign_0 {d : Nat} {Q : Option Int32 → Mem → Prop} (M : Mem) (x0 : Int32) (h : (¬ x0 = 43 → (¬ x0 = 45 → (¬ x0 = 42 → (¬ x0 = 47 → (¬ x0 = 37 → Q (some (-1)) M) ∧ (x0 = 37 → Q (some 6) M)) ∧ (x0 = 47 → Q (some 5) M)) ∧ (x0 = 42 → Q (some 4) M)) ∧ (x0 = 45 → Q (some 3) M)) ∧ (x0 = 43 → Q (some 2) M)) : AX10_sumSign d Q 0 [lI x0] [] M := by
  refine aw_iload_n dX10_sumSign_0 rfl rfl ?_
  refine aw_bipush (v := 43) dX10_sumSign_1 (by decide) ?_
  refine aw_icmp_ne (tgt := 10) dX10_sumSign_3 (by decide) (fun z => ?_) (fun z => ?_)
  · replace h := h.1 z
    refine aw_iload_n dX10_sumSign_10 rfl rfl ?_
    refine aw_bipush (v := 45) dX10_sumSign_11 (by decide) ?_
    refine aw_icmp_ne (tgt := 20) dX10_sumSign_13 (by decide) (fun z => ?_) (fun z => ?_)
    · replace h := h.1 z
      refine aw_iload_n dX10_sumSign_20 rfl rfl ?_
      refine aw_bipush (v := 42) dX10_sumSign_21 (by decide) ?_
      refine aw_icmp_ne (tgt := 30) dX10_sumSign_23 (by decide) (fun z => ?_) (fun z => ?_)
      · replace h := h.1 z
        refine aw_iload_n dX10_sumSign_30 rfl rfl ?_
        refine aw_bipush (v := 47) dX10_sumSign_31 (by decide) ?_
        refine aw_icmp_ne (tgt := 40) dX10_sumSign_33 (by decide) (fun z => ?_) (fun z => ?_)
        · replace h := h.1 z
          refine aw_iload_n dX10_sumSign_40 rfl rfl ?_
          refine aw_bipush (v := 37) dX10_sumSign_41 (by decide) ?_
          refine aw_icmp_ne (tgt := 51) dX10_sumSign_43 (by decide) (fun z => ?_) (fun z => ?_)
          · replace h := h.1 z
            refine aw_iconst (v := (-1)) dX10_sumSign_51 (by decide) ?_
            exact aw_iret dX10_sumSign_52 rfl rfl h
          · replace h := h.2 z
            refine aw_bipush (v := 6) dX10_sumSign_46 (by decide) ?_
            refine aw_goto (tgt := 52) dX10_sumSign_48 (by decide) ?_
            exact aw_iret dX10_sumSign_52 rfl rfl h
        · replace h := h.2 z
          refine aw_iconst (v := 5) dX10_sumSign_36 (by decide) ?_
          refine aw_goto (tgt := 52) dX10_sumSign_37 (by decide) ?_
          exact aw_iret dX10_sumSign_52 rfl rfl h
      · replace h := h.2 z
        refine aw_iconst (v := 4) dX10_sumSign_26 (by decide) ?_
        refine aw_goto (tgt := 52) dX10_sumSign_27 (by decide) ?_
        exact aw_iret dX10_sumSign_52 rfl rfl h
    · replace h := h.2 z
      refine aw_iconst (v := 3) dX10_sumSign_16 (by decide) ?_
      refine aw_goto (tgt := 52) dX10_sumSign_17 (by decide) ?_
      exact aw_iret dX10_sumSign_52 rfl rfl h
  · replace h := h.2 z
    refine aw_iconst (v := 2) dX10_sumSign_6 (by decide) ?_
    refine aw_goto (tgt := 52) dX10_sumSign_7 (by decide) ?_
    exact aw_iret dX10_sumSign_52 rfl rfl h
abbrev AX10_reckon (d : Nat) (Q : Option Int32 → Mem → Prop) (pc : Nat) (L : List (Option Value)) (st : List Value) (M : Mem) : Prop := AW none RX10 cX10_reckon 3 (some .int) d Q pc L st M
theorem eX10_reckon {d : Nat} {Q : Option Int32 → Mem → Prop} (M : Mem) (x0 x1 x2 : Int32) (h : AX10_reckon d Q 0 [lI x0, lI x1, lI x2] [] M) : AM d iX10_reckon [.int x0, .int x1, .int x2] M Q := AM.of2 (by decide) rfl rfl h
theorem bX10_reckon_0 {d : Nat} {Q : Option Int32 → Mem → Prop} (M : Mem) (x0 x1 x2 : Int32) (h : (Int32.toInt x0 < 2 ∨ 8 < Int32.toInt x0 → (¬ x1 = x2 → Q (some 0) M) ∧ (x1 = x2 → Q (some 1) M)) ∧ (x0 = 2 → Q (some (x1 + x2)) M) ∧ (x0 = 3 → Q (some (x1 - x2)) M) ∧ (x0 = 4 → Q (some (x1 * x2)) M) ∧ (x0 = 5 → (¬ x2 = 0) ∧ (Q (some (x1 / x2)) M)) ∧ (x0 = 6 → (¬ x2 = 0) ∧ (Q (some (x1 - x1 / x2 * x2)) M)) ∧ (x0 = 7 → (x2 ≤ x1 → Q (some 0) M) ∧ (¬ x2 ≤ x1 → Q (some 1) M)) ∧ (x0 = 8 → (x1 ≤ x2 → Q (some 0) M) ∧ (¬ x1 ≤ x2 → Q (some 1) M))) : AX10_reckon d Q 0 [lI x0, lI x1, lI x2] [] M := by
  refine aw_iload_n dX10_reckon_0 rfl rfl ?_
  rcases Classical.em (Int32.toInt x0 < 2 ∨ 8 < Int32.toInt x0) with z | z
  · replace h := h.1 z
    refine aw_tableOut (tgt := 86) dX10_reckon_1 z (by decide) ?_
    refine aw_iload_n dX10_reckon_86 rfl rfl ?_
    refine aw_iload_n dX10_reckon_87 rfl rfl ?_
    refine aw_icmp_ne (tgt := 95) dX10_reckon_88 (by decide) (fun z => ?_) (fun z => ?_)
    · replace h := h.1 z
      refine aw_iconst (v := 0) dX10_reckon_95 (by decide) ?_
      exact aw_iret dX10_reckon_96 rfl rfl h
    · replace h := h.2 z
      refine aw_iconst (v := 1) dX10_reckon_91 (by decide) ?_
      refine aw_goto (tgt := 96) dX10_reckon_92 (by decide) ?_
      exact aw_iret dX10_reckon_96 rfl rfl h
  replace h := h.2
  rcases Classical.em (x0 = 2) with y | y
  · replace h := h.1 y
    refine aw_tableIn (off := 43) (tgt := 44) dX10_reckon_1 (by rw [y]; decide) (by rw [y]; decide) (by rw [y]; rfl) (by decide) ?_
    refine aw_iload_n dX10_reckon_44 rfl rfl ?_
    refine aw_iload_n dX10_reckon_45 rfl rfl ?_
    refine aw_iadd dX10_reckon_46 ?_
    exact aw_iret dX10_reckon_47 rfl rfl h
  replace h := h.2
  rename ¬ _ = _ => y0
  rcases Classical.em (x0 = 3) with y | y
  · replace h := h.1 y
    refine aw_tableIn (off := 47) (tgt := 48) dX10_reckon_1 (by rw [y]; decide) (by rw [y]; decide) (by rw [y]; rfl) (by decide) ?_
    refine aw_iload_n dX10_reckon_48 rfl rfl ?_
    refine aw_iload_n dX10_reckon_49 rfl rfl ?_
    refine aw_isub dX10_reckon_50 ?_
    exact aw_iret dX10_reckon_51 rfl rfl h
  replace h := h.2
  rename ¬ _ = _ => y1
  rcases Classical.em (x0 = 4) with y | y
  · replace h := h.1 y
    refine aw_tableIn (off := 51) (tgt := 52) dX10_reckon_1 (by rw [y]; decide) (by rw [y]; decide) (by rw [y]; rfl) (by decide) ?_
    refine aw_iload_n dX10_reckon_52 rfl rfl ?_
    refine aw_iload_n dX10_reckon_53 rfl rfl ?_
    refine aw_imul dX10_reckon_54 ?_
    exact aw_iret dX10_reckon_55 rfl rfl h
  replace h := h.2
  rename ¬ _ = _ => y2
  rcases Classical.em (x0 = 5) with y | y
  · replace h := h.1 y
    refine aw_tableIn (off := 55) (tgt := 56) dX10_reckon_1 (by rw [y]; decide) (by rw [y]; decide) (by rw [y]; rfl) (by decide) ?_
    refine aw_iload_n dX10_reckon_56 rfl rfl ?_
    refine aw_iload_n dX10_reckon_57 rfl rfl ?_
    obtain ⟨h9, h⟩ := h
    refine aw_idiv dX10_reckon_58 h9 ?_
    exact aw_iret dX10_reckon_59 rfl rfl h
  replace h := h.2
  rename ¬ _ = _ => y3
  rcases Classical.em (x0 = 6) with y | y
  · replace h := h.1 y
    refine aw_tableIn (off := 59) (tgt := 60) dX10_reckon_1 (by rw [y]; decide) (by rw [y]; decide) (by rw [y]; rfl) (by decide) ?_
    refine aw_iload_n dX10_reckon_60 rfl rfl ?_
    refine aw_iload_n dX10_reckon_61 rfl rfl ?_
    obtain ⟨h9, h⟩ := h
    refine aw_irem dX10_reckon_62 h9 ?_
    exact aw_iret dX10_reckon_63 rfl rfl h
  replace h := h.2
  rename ¬ _ = _ => y4
  rcases Classical.em (x0 = 7) with y | y
  · replace h := h.1 y
    refine aw_tableIn (off := 63) (tgt := 64) dX10_reckon_1 (by rw [y]; decide) (by rw [y]; decide) (by rw [y]; rfl) (by decide) ?_
    refine aw_iload_n dX10_reckon_64 rfl rfl ?_
    refine aw_iload_n dX10_reckon_65 rfl rfl ?_
    refine aw_icmp_ge (tgt := 73) dX10_reckon_66 (by decide) (fun z => ?_) (fun z => ?_)
    · replace h := h.1 z
      refine aw_iconst (v := 0) dX10_reckon_73 (by decide) ?_
      exact aw_iret dX10_reckon_74 rfl rfl h
    · replace h := h.2 z
      refine aw_iconst (v := 1) dX10_reckon_69 (by decide) ?_
      refine aw_goto (tgt := 74) dX10_reckon_70 (by decide) ?_
      exact aw_iret dX10_reckon_74 rfl rfl h
  replace h := h.2
  rename ¬ _ = _ => y5
  have y : x0 = 8 := Int32.toInt_inj.mp (by have e := z; have q0 := lv_neT (a := 2) y0 (by decide); have q1 := lv_neT (a := 3) y1 (by decide); have q2 := lv_neT (a := 4) y2 (by decide); have q3 := lv_neT (a := 5) y3 (by decide); have q4 := lv_neT (a := 6) y4 (by decide); have q5 := lv_neT (a := 7) y5 (by decide); show _ = (8 : Int); omega)
  replace h := h y
  refine aw_tableIn (off := 74) (tgt := 75) dX10_reckon_1 (by rw [y]; decide) (by rw [y]; decide) (by rw [y]; rfl) (by decide) ?_
  refine aw_iload_n dX10_reckon_75 rfl rfl ?_
  refine aw_iload_n dX10_reckon_76 rfl rfl ?_
  refine aw_icmp_le (tgt := 84) dX10_reckon_77 (by decide) (fun z => ?_) (fun z => ?_)
  · replace h := h.1 z
    refine aw_iconst (v := 0) dX10_reckon_84 (by decide) ?_
    exact aw_iret dX10_reckon_85 rfl rfl h
  · replace h := h.2 z
    refine aw_iconst (v := 1) dX10_reckon_80 (by decide) ?_
    refine aw_goto (tgt := 85) dX10_reckon_81 (by decide) ?_
    exact aw_iret dX10_reckon_85 rfl rfl h
abbrev AX10_here (d : Nat) (Q : Option Int32 → Mem → Prop) (pc : Nat) (L : List (Option Value)) (st : List Value) (M : Mem) : Prop := AW none RX10 cX10_here 1 (some .int) d Q pc L st M
theorem eX10_here {d : Nat} {Q : Option Int32 → Mem → Prop} (M : Mem) (h : AX10_here d Q 0 [lR 77] [] M) : AM d iX10_here [.ref 77] M Q := AM.of2 (by decide) rfl rfl h
theorem bX10_here_0 {d : Nat} {Q : Option Int32 → Mem → Prop} (M : Mem) (h : ((M 77 12) ≤ (M 77 11) → Q (some (-1)) M) ∧ (¬ (M 77 12) ≤ (M 77 11) → (vp_in (M 77 11) 200) ∧ (Q (some ((M 83 (ix (M 77 11))) &&& 255)) M))) : AX10_here d Q 0 [lR 77] [] M := by
  refine aw_aload_n dX10_here_0 rfl rfl ?_
  refine aw_getf dX10_here_1 fl_X10_174 (by decide) ce_77 rfl (v := .int (M 77 11)) rfl ?_
  refine aw_aload_n dX10_here_4 rfl rfl ?_
  refine aw_getf dX10_here_5 fl_X10_177 (by decide) ce_77 rfl (v := .int (M 77 12)) rfl ?_
  refine aw_icmp_ge (tgt := 27) dX10_here_8 (by decide) (fun z => ?_) (fun z => ?_)
  · replace h := h.1 z
    refine aw_iconst (v := (-1)) dX10_here_27 (by decide) ?_
    exact aw_iret dX10_here_28 rfl rfl h
  · replace h := h.2 z
    refine aw_aload_n dX10_here_11 rfl rfl ?_
    refine aw_getf dX10_here_12 fl_X10_25 (by decide) ce_77 rfl (v := .ref 83) rfl ?_
    refine aw_aload_n dX10_here_15 rfl rfl ?_
    refine aw_getf dX10_here_16 fl_X10_174 (by decide) ce_77 rfl (v := .int (M 77 11)) rfl ?_
    obtain ⟨h9, h⟩ := h
    refine aw_bald dX10_here_19 (by decide) ce_83 h9 ?_
    refine aw_sipush (v := 255) dX10_here_20 (by decide) ?_
    refine aw_iand dX10_here_23 ?_
    refine aw_goto (tgt := 28) dX10_here_24 (by decide) ?_
    exact aw_iret dX10_here_28 rfl rfl h
abbrev AX10_waitTop (d : Nat) (Q : Option Int32 → Mem → Prop) (pc : Nat) (L : List (Option Value)) (st : List Value) (M : Mem) : Prop := AW none RX10 cX10_waitTop 1 (some .int) d Q pc L st M
theorem eX10_waitTop {d : Nat} {Q : Option Int32 → Mem → Prop} (M : Mem) (h : AX10_waitTop d Q 0 [lR 77] [] M) : AM d iX10_waitTop [.ref 77] M Q := AM.of2 (by decide) rfl rfl h
theorem bX10_waitTop_0 {d : Nat} {Q : Option Int32 → Mem → Prop} (M : Mem) (h : (¬ (M 77 16) = 0 → (vp_in ((M 77 16) - 1) 180) ∧ (Q (some ((M 85 (ix ((M 77 16) - 1))) / 1048576)) M)) ∧ ((M 77 16) = 0 → Q (some (-1)) M)) : AX10_waitTop d Q 0 [lR 77] [] M := by
  refine aw_aload_n dX10_waitTop_0 rfl rfl ?_
  refine aw_getf dX10_waitTop_1 fl_X10_203 (by decide) ce_77 rfl (v := .int (M 77 16)) rfl ?_
  refine aw_if_ne (tgt := 11) dX10_waitTop_4 (by decide) (fun z => ?_) (fun z => ?_)
  · replace h := h.1 z
    refine aw_aload_n dX10_waitTop_11 rfl rfl ?_
    refine aw_getf dX10_waitTop_12 fl_X10_32 (by decide) ce_77 rfl (v := .ref 85) rfl ?_
    refine aw_aload_n dX10_waitTop_15 rfl rfl ?_
    refine aw_getf dX10_waitTop_16 fl_X10_203 (by decide) ce_77 rfl (v := .int (M 77 16)) rfl ?_
    refine aw_iconst (v := 1) dX10_waitTop_19 (by decide) ?_
    refine aw_isub dX10_waitTop_20 ?_
    obtain ⟨h9, h⟩ := h
    refine aw_iald dX10_waitTop_21 (by decide) ce_85 h9 ?_
    refine aw_ldc dX10_waitTop_22 kc_X10_199 ?_
    refine aw_idiv dX10_waitTop_24 (by decide) ?_
    exact aw_iret dX10_waitTop_25 rfl rfl h
  · replace h := h.2 z
    refine aw_iconst (v := (-1)) dX10_waitTop_7 (by decide) ?_
    refine aw_goto (tgt := 25) dX10_waitTop_8 (by decide) ?_
    exact aw_iret dX10_waitTop_25 rfl rfl h
abbrev AX9_within (d : Nat) (Q : Option Int32 → Mem → Prop) (pc : Nat) (L : List (Option Value)) (st : List Value) (M : Mem) : Prop := AW none RX9 cX9_within 3 (some .boolean) d Q pc L st M
theorem eX9_within {d : Nat} {Q : Option Int32 → Mem → Prop} (M : Mem) (x0 x1 x2 : Int32) (h : AX9_within d Q 0 [lI x0, lI x1, lI x2] [] M) : AM d iX9_within [.int x0, .int x1, .int x2] M Q := AM.of2 (by decide) rfl rfl h
theorem bX9_within_0 {d : Nat} {Q : Option Int32 → Mem → Prop} (M : Mem) (x0 x1 x2 : Int32) (h : (x0 < x1 → Q (some 0) M) ∧ (¬ x0 < x1 → (x2 < x0 → Q (some 0) M) ∧ (¬ x2 < x0 → Q (some 1) M))) : AX9_within d Q 0 [lI x0, lI x1, lI x2] [] M := by
  refine aw_iload_n dX9_within_0 rfl rfl ?_
  refine aw_iload_n dX9_within_1 rfl rfl ?_
  refine aw_icmp_lt (tgt := 14) dX9_within_2 (by decide) (fun z => ?_) (fun z => ?_)
  · replace h := h.1 z
    refine aw_iconst (v := 0) dX9_within_14 (by decide) ?_
    exact aw_iret dX9_within_15 rfl (nar_b (by decide)) h
  · replace h := h.2 z
    refine aw_iload_n dX9_within_5 rfl rfl ?_
    refine aw_iload_n dX9_within_6 rfl rfl ?_
    refine aw_icmp_gt (tgt := 14) dX9_within_7 (by decide) (fun z => ?_) (fun z => ?_)
    · replace h := h.1 z
      refine aw_iconst (v := 0) dX9_within_14 (by decide) ?_
      exact aw_iret dX9_within_15 rfl (nar_b (by decide)) h
    · replace h := h.2 z
      refine aw_iconst (v := 1) dX9_within_10 (by decide) ?_
      refine aw_goto (tgt := 15) dX9_within_11 (by decide) ?_
      exact aw_iret dX9_within_15 rfl (nar_b (by decide)) h
abbrev AX9_has (d : Nat) (Q : Option Int32 → Mem → Prop) (pc : Nat) (L : List (Option Value)) (st : List Value) (M : Mem) : Prop := AW none RX9 cX9_has 2 (some .boolean) d Q pc L st M
theorem eX9_has {d : Nat} {Q : Option Int32 → Mem → Prop} (M : Mem) (x0 x1 : Int32) (h : AX9_has d Q 0 [lI x0, lI x1] [] M) : AM d iX9_has [.int x0, .int x1] M Q := AM.of2 (by decide) rfl rfl h
theorem bX9_has_0 {d : Nat} {Q : Option Int32 → Mem → Prop} (M : Mem) (x0 x1 : Int32) (h : (((x0 >>> (x1 &&& 31)) &&& 1) = 0 → Q (some 0) M) ∧ (¬ ((x0 >>> (x1 &&& 31)) &&& 1) = 0 → Q (some 1) M)) : AX9_has d Q 0 [lI x0, lI x1] [] M := by
  refine aw_iload_n dX9_has_0 rfl rfl ?_
  refine aw_iload_n dX9_has_1 rfl rfl ?_
  refine aw_ishr dX9_has_2 ?_
  refine aw_iconst (v := 1) dX9_has_3 (by decide) ?_
  refine aw_iand dX9_has_4 ?_
  refine aw_if_eq (tgt := 12) dX9_has_5 (by decide) (fun z => ?_) (fun z => ?_)
  · replace h := h.1 z
    refine aw_iconst (v := 0) dX9_has_12 (by decide) ?_
    exact aw_iret dX9_has_13 rfl (nar_b (by decide)) h
  · replace h := h.2 z
    refine aw_iconst (v := 1) dX9_has_8 (by decide) ?_
    refine aw_goto (tgt := 13) dX9_has_9 (by decide) ?_
    exact aw_iret dX9_has_13 rfl (nar_b (by decide)) h
abbrev AX9_nextSubset (d : Nat) (Q : Option Int32 → Mem → Prop) (pc : Nat) (L : List (Option Value)) (st : List Value) (M : Mem) : Prop := AW none RX9 cX9_nextSubset 2 (some .int) d Q pc L st M
theorem eX9_nextSubset {d : Nat} {Q : Option Int32 → Mem → Prop} (M : Mem) (x0 x1 : Int32) (h : AX9_nextSubset d Q 0 [lI x0, lI x1] [] M) : AM d iX9_nextSubset [.int x0, .int x1] M Q := AM.of2 (by decide) rfl rfl h
theorem bX9_nextSubset_0 {d : Nat} {Q : Option Int32 → Mem → Prop} (M : Mem) (x0 x1 : Int32) (h : Q (some ((x0 - x1) &&& x1)) M) : AX9_nextSubset d Q 0 [lI x0, lI x1] [] M := by
  refine aw_iload_n dX9_nextSubset_0 rfl rfl ?_
  refine aw_iload_n dX9_nextSubset_1 rfl rfl ?_
  refine aw_isub dX9_nextSubset_2 ?_
  refine aw_iload_n dX9_nextSubset_3 rfl rfl ?_
  refine aw_iand dX9_nextSubset_4 ?_
  exact aw_iret dX9_nextSubset_5 rfl rfl h
abbrev AX8_isPerson (d : Nat) (Q : Option Int32 → Mem → Prop) (pc : Nat) (L : List (Option Value)) (st : List Value) (M : Mem) : Prop := AW none RX8 cX8_isPerson 2 (some .boolean) d Q pc L st M
theorem eX8_isPerson {d : Nat} {Q : Option Int32 → Mem → Prop} {v : Nat} (M : Mem) (x1 : Int32) (h : AX8_isPerson d Q 0 [lR v, lI x1] [] M) : AM d iX8_isPerson [.ref v, .int x1] M Q := AM.of2 (by decide) rfl rfl h
theorem bX8_isPerson_0 {d : Nat} {Q : Option Int32 → Mem → Prop} {v : Nat} (h_v : isV v) (M : Mem) (x1 : Int32) (h : (x1 < 0 → Q (some 0) M) ∧ (¬ x1 < 0 → ((M v 7) ≤ x1 → Q (some 0) M) ∧ (¬ (M v 7) ≤ x1 → Q (some 1) M))) : AX8_isPerson d Q 0 [lR v, lI x1] [] M := by
  refine aw_iload_n dX8_isPerson_0 rfl rfl ?_
  refine aw_if_lt (tgt := 16) dX8_isPerson_1 (by decide) (fun z => ?_) (fun z => ?_)
  · replace h := h.1 z
    refine aw_iconst (v := 0) dX8_isPerson_16 (by decide) ?_
    exact aw_iret dX8_isPerson_17 rfl (nar_b (by decide)) h
  · replace h := h.2 z
    refine aw_iload_n dX8_isPerson_4 rfl rfl ?_
    refine aw_aload_n dX8_isPerson_5 rfl rfl ?_
    refine aw_getf dX8_isPerson_6 fl_X8_53 (kV0 h_v) (cV0 h_v) rfl (v := .int (M v 7)) rfl ?_
    refine aw_icmp_ge (tgt := 16) dX8_isPerson_9 (by decide) (fun z => ?_) (fun z => ?_)
    · replace h := h.1 z
      refine aw_iconst (v := 0) dX8_isPerson_16 (by decide) ?_
      exact aw_iret dX8_isPerson_17 rfl (nar_b (by decide)) h
    · replace h := h.2 z
      refine aw_iconst (v := 1) dX8_isPerson_12 (by decide) ?_
      refine aw_goto (tgt := 17) dX8_isPerson_13 (by decide) ?_
      exact aw_iret dX8_isPerson_17 rfl (nar_b (by decide)) h
abbrev AX8_isOath (d : Nat) (Q : Option Int32 → Mem → Prop) (pc : Nat) (L : List (Option Value)) (st : List Value) (M : Mem) : Prop := AW none RX8 cX8_isOath 2 (some .boolean) d Q pc L st M
theorem eX8_isOath {d : Nat} {Q : Option Int32 → Mem → Prop} {v : Nat} (M : Mem) (x1 : Int32) (h : AX8_isOath d Q 0 [lR v, lI x1] [] M) : AM d iX8_isOath [.ref v, .int x1] M Q := AM.of2 (by decide) rfl rfl h
theorem bX8_isOath_0 {d : Nat} {Q : Option Int32 → Mem → Prop} {v : Nat} (h_v : isV v) (M : Mem) (x1 : Int32) (h : (x1 < 0 → Q (some 0) M) ∧ (¬ x1 < 0 → ((M v 9) ≤ x1 → Q (some 0) M) ∧ (¬ (M v 9) ≤ x1 → Q (some 1) M))) : AX8_isOath d Q 0 [lR v, lI x1] [] M := by
  refine aw_iload_n dX8_isOath_0 rfl rfl ?_
  refine aw_if_lt (tgt := 16) dX8_isOath_1 (by decide) (fun z => ?_) (fun z => ?_)
  · replace h := h.1 z
    refine aw_iconst (v := 0) dX8_isOath_16 (by decide) ?_
    exact aw_iret dX8_isOath_17 rfl (nar_b (by decide)) h
  · replace h := h.2 z
    refine aw_iload_n dX8_isOath_4 rfl rfl ?_
    refine aw_aload_n dX8_isOath_5 rfl rfl ?_
    refine aw_getf dX8_isOath_6 fl_X8_59 (kV0 h_v) (cV0 h_v) rfl (v := .int (M v 9)) rfl ?_
    refine aw_icmp_ge (tgt := 16) dX8_isOath_9 (by decide) (fun z => ?_) (fun z => ?_)
    · replace h := h.1 z
      refine aw_iconst (v := 0) dX8_isOath_16 (by decide) ?_
      exact aw_iret dX8_isOath_17 rfl (nar_b (by decide)) h
    · replace h := h.2 z
      refine aw_iconst (v := 1) dX8_isOath_12 (by decide) ?_
      refine aw_goto (tgt := 17) dX8_isOath_13 (by decide) ?_
      exact aw_iret dX8_isOath_17 rfl (nar_b (by decide)) h
abbrev AX2_isRefused (d : Nat) (Q : Option Int32 → Mem → Prop) (pc : Nat) (L : List (Option Value)) (st : List Value) (M : Mem) : Prop := AW none RX2 cX2_isRefused 2 (some .boolean) d Q pc L st M
theorem eX2_isRefused {d : Nat} {Q : Option Int32 → Mem → Prop} (M : Mem) (x0 x1 : Int32) (h : AX2_isRefused d Q 0 [lI x0, lI x1] [] M) : AM d iX2_isRefused [.int x0, .int x1] M Q := AM.of2 (by decide) rfl rfl h
theorem bX2_isRefused_0 {d : Nat} {Q : Option Int32 → Mem → Prop} (M : Mem) (x0 x1 : Int32) (h : (¬ x1 = 0 → Q (some 0) M) ∧ (x1 = 0 → (x0 = 47 → Q (some 1) M) ∧ (¬ x0 = 47 → (¬ x0 = 37 → Q (some 0) M) ∧ (x0 = 37 → Q (some 1) M)))) : AX2_isRefused d Q 0 [lI x0, lI x1] [] M := by
  refine aw_iload_n dX2_isRefused_0 rfl rfl ?_
  refine aw_if_ne (tgt := 20) dX2_isRefused_1 (by decide) (fun z => ?_) (fun z => ?_)
  · replace h := h.1 z
    refine aw_iconst (v := 0) dX2_isRefused_20 (by decide) ?_
    exact aw_iret dX2_isRefused_21 rfl (nar_b (by decide)) h
  · replace h := h.2 z
    refine aw_iload_n dX2_isRefused_4 rfl rfl ?_
    refine aw_bipush (v := 47) dX2_isRefused_5 (by decide) ?_
    refine aw_icmp_eq (tgt := 16) dX2_isRefused_7 (by decide) (fun z => ?_) (fun z => ?_)
    · replace h := h.1 z
      refine aw_iconst (v := 1) dX2_isRefused_16 (by decide) ?_
      refine aw_goto (tgt := 21) dX2_isRefused_17 (by decide) ?_
      exact aw_iret dX2_isRefused_21 rfl (nar_b (by decide)) h
    · replace h := h.2 z
      refine aw_iload_n dX2_isRefused_10 rfl rfl ?_
      refine aw_bipush (v := 37) dX2_isRefused_11 (by decide) ?_
      refine aw_icmp_ne (tgt := 20) dX2_isRefused_13 (by decide) (fun z => ?_) (fun z => ?_)
      · replace h := h.1 z
        refine aw_iconst (v := 0) dX2_isRefused_20 (by decide) ?_
        exact aw_iret dX2_isRefused_21 rfl (nar_b (by decide)) h
      · replace h := h.2 z
        refine aw_iconst (v := 1) dX2_isRefused_16 (by decide) ?_
        refine aw_goto (tgt := 21) dX2_isRefused_17 (by decide) ?_
        exact aw_iret dX2_isRefused_21 rfl (nar_b (by decide)) h
abbrev AX2_combined (d : Nat) (Q : Option Int32 → Mem → Prop) (pc : Nat) (L : List (Option Value)) (st : List Value) (M : Mem) : Prop := AW none RX2 cX2_combined 3 (some .int) d Q pc L st M
theorem eX2_combined {d : Nat} {Q : Option Int32 → Mem → Prop} (M : Mem) (x0 x1 x2 : Int32) (h : AX2_combined d Q 0 [lI x0, lI x1, lI x2] [] M) : AM d iX2_combined [.int x0, .int x1, .int x2] M Q := AM.of2 (by decide) rfl rfl h
theorem bX2_combined_0 {d : Nat} {Q : Option Int32 → Mem → Prop} (M : Mem) (x0 x1 x2 : Int32) (h : (x0 = 37 → (¬ x2 = 0 → (¬ x2 = 0) ∧ (Q (some (x1 - x1 / x2 * x2)) M)) ∧ (x2 = 0 → Q (some 0) M)) ∧ (x0 = 42 → Q (some (x1 * x2)) M) ∧ (x0 = 43 → Q (some (x1 + x2)) M) ∧ (x0 = 45 → Q (some (x1 - x2)) M) ∧ (x0 = 47 → (¬ x2 = 0 → (¬ x2 = 0) ∧ (Q (some (x1 / x2)) M)) ∧ (x2 = 0 → Q (some 0) M)) ∧ (x0 = 60 → (x2 ≤ x1 → Q (some 0) M) ∧ (¬ x2 ≤ x1 → Q (some 1) M)) ∧ (x0 = 62 → (x1 ≤ x2 → Q (some 0) M) ∧ (¬ x1 ≤ x2 → Q (some 1) M)) ∧ (¬ x0 = 37 ∧ ¬ x0 = 42 ∧ ¬ x0 = 43 ∧ ¬ x0 = 45 ∧ ¬ x0 = 47 ∧ ¬ x0 = 60 ∧ ¬ x0 = 62 → (¬ x1 = x2 → Q (some 0) M) ∧ (x1 = x2 → Q (some 1) M))) : AX2_combined d Q 0 [lI x0, lI x1, lI x2] [] M := by
  refine aw_iload_n dX2_combined_0 rfl rfl ?_
  rcases Classical.em (x0 = 37) with y | y
  · replace h := h.1 y
    refine aw_lookup (off := 91) (tgt := 92) dX2_combined_1 (by decide) (by rw [y]; decide) (by decide) ?_
    refine aw_iload_n dX2_combined_92 rfl rfl ?_
    refine aw_if_ne (tgt := 100) dX2_combined_93 (by decide) (fun z => ?_) (fun z => ?_)
    · replace h := h.1 z
      refine aw_iload_n dX2_combined_100 rfl rfl ?_
      refine aw_iload_n dX2_combined_101 rfl rfl ?_
      obtain ⟨h9, h⟩ := h
      refine aw_irem dX2_combined_102 h9 ?_
      exact aw_iret dX2_combined_103 rfl rfl h
    · replace h := h.2 z
      refine aw_iconst (v := 0) dX2_combined_96 (by decide) ?_
      refine aw_goto (tgt := 103) dX2_combined_97 (by decide) ?_
      exact aw_iret dX2_combined_103 rfl rfl h
  replace h := h.2
  rename ¬ _ = _ => y0
  rcases Classical.em (x0 = 42) with y | y
  · replace h := h.1 y
    refine aw_lookup (off := 75) (tgt := 76) dX2_combined_1 (by decide) (by rw [y]; decide) (by decide) ?_
    refine aw_iload_n dX2_combined_76 rfl rfl ?_
    refine aw_iload_n dX2_combined_77 rfl rfl ?_
    refine aw_imul dX2_combined_78 ?_
    exact aw_iret dX2_combined_79 rfl rfl h
  replace h := h.2
  rename ¬ _ = _ => y1
  rcases Classical.em (x0 = 43) with y | y
  · replace h := h.1 y
    refine aw_lookup (off := 67) (tgt := 68) dX2_combined_1 (by decide) (by rw [y]; decide) (by decide) ?_
    refine aw_iload_n dX2_combined_68 rfl rfl ?_
    refine aw_iload_n dX2_combined_69 rfl rfl ?_
    refine aw_iadd dX2_combined_70 ?_
    exact aw_iret dX2_combined_71 rfl rfl h
  replace h := h.2
  rename ¬ _ = _ => y2
  rcases Classical.em (x0 = 45) with y | y
  · replace h := h.1 y
    refine aw_lookup (off := 71) (tgt := 72) dX2_combined_1 (by decide) (by rw [y]; decide) (by decide) ?_
    refine aw_iload_n dX2_combined_72 rfl rfl ?_
    refine aw_iload_n dX2_combined_73 rfl rfl ?_
    refine aw_isub dX2_combined_74 ?_
    exact aw_iret dX2_combined_75 rfl rfl h
  replace h := h.2
  rename ¬ _ = _ => y3
  rcases Classical.em (x0 = 47) with y | y
  · replace h := h.1 y
    refine aw_lookup (off := 79) (tgt := 80) dX2_combined_1 (by decide) (by rw [y]; decide) (by decide) ?_
    refine aw_iload_n dX2_combined_80 rfl rfl ?_
    refine aw_if_ne (tgt := 88) dX2_combined_81 (by decide) (fun z => ?_) (fun z => ?_)
    · replace h := h.1 z
      refine aw_iload_n dX2_combined_88 rfl rfl ?_
      refine aw_iload_n dX2_combined_89 rfl rfl ?_
      obtain ⟨h9, h⟩ := h
      refine aw_idiv dX2_combined_90 h9 ?_
      exact aw_iret dX2_combined_91 rfl rfl h
    · replace h := h.2 z
      refine aw_iconst (v := 0) dX2_combined_84 (by decide) ?_
      refine aw_goto (tgt := 91) dX2_combined_85 (by decide) ?_
      exact aw_iret dX2_combined_91 rfl rfl h
  replace h := h.2
  rename ¬ _ = _ => y4
  rcases Classical.em (x0 = 60) with y | y
  · replace h := h.1 y
    refine aw_lookup (off := 103) (tgt := 104) dX2_combined_1 (by decide) (by rw [y]; decide) (by decide) ?_
    refine aw_iload_n dX2_combined_104 rfl rfl ?_
    refine aw_iload_n dX2_combined_105 rfl rfl ?_
    refine aw_icmp_ge (tgt := 113) dX2_combined_106 (by decide) (fun z => ?_) (fun z => ?_)
    · replace h := h.1 z
      refine aw_iconst (v := 0) dX2_combined_113 (by decide) ?_
      exact aw_iret dX2_combined_114 rfl rfl h
    · replace h := h.2 z
      refine aw_iconst (v := 1) dX2_combined_109 (by decide) ?_
      refine aw_goto (tgt := 114) dX2_combined_110 (by decide) ?_
      exact aw_iret dX2_combined_114 rfl rfl h
  replace h := h.2
  rename ¬ _ = _ => y5
  rcases Classical.em (x0 = 62) with y | y
  · replace h := h.1 y
    refine aw_lookup (off := 114) (tgt := 115) dX2_combined_1 (by decide) (by rw [y]; decide) (by decide) ?_
    refine aw_iload_n dX2_combined_115 rfl rfl ?_
    refine aw_iload_n dX2_combined_116 rfl rfl ?_
    refine aw_icmp_le (tgt := 124) dX2_combined_117 (by decide) (fun z => ?_) (fun z => ?_)
    · replace h := h.1 z
      refine aw_iconst (v := 0) dX2_combined_124 (by decide) ?_
      exact aw_iret dX2_combined_125 rfl rfl h
    · replace h := h.2 z
      refine aw_iconst (v := 1) dX2_combined_120 (by decide) ?_
      refine aw_goto (tgt := 125) dX2_combined_121 (by decide) ?_
      exact aw_iret dX2_combined_125 rfl rfl h
  replace h := h.2
  rename ¬ _ = _ => y6
  replace h := h ⟨y0, y1, y2, y3, y4, y5, y6⟩
  refine aw_lookup (off := 125) (tgt := 126) dX2_combined_1 (by decide) (by rw [lv_osw (k := 37) y0 (by decide)]; rw [lv_osw (k := 42) y1 (by decide)]; rw [lv_osw (k := 43) y2 (by decide)]; rw [lv_osw (k := 45) y3 (by decide)]; rw [lv_osw (k := 47) y4 (by decide)]; rw [lv_osw (k := 60) y5 (by decide)]; rw [lv_osw (k := 62) y6 (by decide)]; rfl) (by decide) ?_
  refine aw_iload_n dX2_combined_126 rfl rfl ?_
  refine aw_iload_n dX2_combined_127 rfl rfl ?_
  refine aw_icmp_ne (tgt := 135) dX2_combined_128 (by decide) (fun z => ?_) (fun z => ?_)
  · replace h := h.1 z
    refine aw_iconst (v := 0) dX2_combined_135 (by decide) ?_
    exact aw_iret dX2_combined_136 rfl rfl h
  · replace h := h.2 z
    refine aw_iconst (v := 1) dX2_combined_131 (by decide) ?_
    refine aw_goto (tgt := 136) dX2_combined_132 (by decide) ?_
    exact aw_iret dX2_combined_136 rfl rfl h
abbrev AJ6_bitCount_0f7a4 (d : Nat) (Q : Option Int32 → Mem → Prop) (pc : Nat) (L : List (Option Value)) (st : List Value) (M : Mem) : Prop := AW none RJ6 cJ6_bitCount_0f7a4 1 (some .int) d Q pc L st M
theorem eJ6_bitCount_0f7a4 {d : Nat} {Q : Option Int32 → Mem → Prop} (M : Mem) (x0 : Int32) (h : AJ6_bitCount_0f7a4 d Q 0 [lI x0] [] M) : AM d iJ6_bitCount_0f7a4 [.int x0] M Q := AM.of2 (by decide) rfl rfl h
theorem bJ6_bitCount_0f7a4_0 {d : Nat} {Q : Option Int32 → Mem → Prop} (M : Mem) (x0 : Int32) (h : Q (some ((((((((x0 - ((Int32.toUInt32 x0 >>> (Int32.toUInt32 1 &&& Int32.toUInt32 31)).toInt32 &&& 1431655765)) &&& 858993459) + ((Int32.toUInt32 (x0 - ((Int32.toUInt32 x0 >>> (Int32.toUInt32 1 &&& Int32.toUInt32 31)).toInt32 &&& 1431655765)) >>> (Int32.toUInt32 2 &&& Int32.toUInt32 31)).toInt32 &&& 858993459)) + (Int32.toUInt32 (((x0 - ((Int32.toUInt32 x0 >>> (Int32.toUInt32 1 &&& Int32.toUInt32 31)).toInt32 &&& 1431655765)) &&& 858993459) + ((Int32.toUInt32 (x0 - ((Int32.toUInt32 x0 >>> (Int32.toUInt32 1 &&& Int32.toUInt32 31)).toInt32 &&& 1431655765)) >>> (Int32.toUInt32 2 &&& Int32.toUInt32 31)).toInt32 &&& 858993459)) >>> (Int32.toUInt32 4 &&& Int32.toUInt32 31)).toInt32) &&& 252645135) + (Int32.toUInt32 (((((x0 - ((Int32.toUInt32 x0 >>> (Int32.toUInt32 1 &&& Int32.toUInt32 31)).toInt32 &&& 1431655765)) &&& 858993459) + ((Int32.toUInt32 (x0 - ((Int32.toUInt32 x0 >>> (Int32.toUInt32 1 &&& Int32.toUInt32 31)).toInt32 &&& 1431655765)) >>> (Int32.toUInt32 2 &&& Int32.toUInt32 31)).toInt32 &&& 858993459)) + (Int32.toUInt32 (((x0 - ((Int32.toUInt32 x0 >>> (Int32.toUInt32 1 &&& Int32.toUInt32 31)).toInt32 &&& 1431655765)) &&& 858993459) + ((Int32.toUInt32 (x0 - ((Int32.toUInt32 x0 >>> (Int32.toUInt32 1 &&& Int32.toUInt32 31)).toInt32 &&& 1431655765)) >>> (Int32.toUInt32 2 &&& Int32.toUInt32 31)).toInt32 &&& 858993459)) >>> (Int32.toUInt32 4 &&& Int32.toUInt32 31)).toInt32) &&& 252645135) >>> (Int32.toUInt32 8 &&& Int32.toUInt32 31)).toInt32) + (Int32.toUInt32 ((((((x0 - ((Int32.toUInt32 x0 >>> (Int32.toUInt32 1 &&& Int32.toUInt32 31)).toInt32 &&& 1431655765)) &&& 858993459) + ((Int32.toUInt32 (x0 - ((Int32.toUInt32 x0 >>> (Int32.toUInt32 1 &&& Int32.toUInt32 31)).toInt32 &&& 1431655765)) >>> (Int32.toUInt32 2 &&& Int32.toUInt32 31)).toInt32 &&& 858993459)) + (Int32.toUInt32 (((x0 - ((Int32.toUInt32 x0 >>> (Int32.toUInt32 1 &&& Int32.toUInt32 31)).toInt32 &&& 1431655765)) &&& 858993459) + ((Int32.toUInt32 (x0 - ((Int32.toUInt32 x0 >>> (Int32.toUInt32 1 &&& Int32.toUInt32 31)).toInt32 &&& 1431655765)) >>> (Int32.toUInt32 2 &&& Int32.toUInt32 31)).toInt32 &&& 858993459)) >>> (Int32.toUInt32 4 &&& Int32.toUInt32 31)).toInt32) &&& 252645135) + (Int32.toUInt32 (((((x0 - ((Int32.toUInt32 x0 >>> (Int32.toUInt32 1 &&& Int32.toUInt32 31)).toInt32 &&& 1431655765)) &&& 858993459) + ((Int32.toUInt32 (x0 - ((Int32.toUInt32 x0 >>> (Int32.toUInt32 1 &&& Int32.toUInt32 31)).toInt32 &&& 1431655765)) >>> (Int32.toUInt32 2 &&& Int32.toUInt32 31)).toInt32 &&& 858993459)) + (Int32.toUInt32 (((x0 - ((Int32.toUInt32 x0 >>> (Int32.toUInt32 1 &&& Int32.toUInt32 31)).toInt32 &&& 1431655765)) &&& 858993459) + ((Int32.toUInt32 (x0 - ((Int32.toUInt32 x0 >>> (Int32.toUInt32 1 &&& Int32.toUInt32 31)).toInt32 &&& 1431655765)) >>> (Int32.toUInt32 2 &&& Int32.toUInt32 31)).toInt32 &&& 858993459)) >>> (Int32.toUInt32 4 &&& Int32.toUInt32 31)).toInt32) &&& 252645135) >>> (Int32.toUInt32 8 &&& Int32.toUInt32 31)).toInt32) >>> (Int32.toUInt32 16 &&& Int32.toUInt32 31)).toInt32) &&& 63)) M) : AJ6_bitCount_0f7a4 d Q 0 [lI x0] [] M := by
  refine aw_iload_n dJ6_bitCount_0f7a4_0 rfl rfl ?_
  refine aw_iload_n dJ6_bitCount_0f7a4_1 rfl rfl ?_
  refine aw_iconst (v := 1) dJ6_bitCount_0f7a4_2 (by decide) ?_
  refine aw_iushr dJ6_bitCount_0f7a4_3 ?_
  refine aw_ldcw dJ6_bitCount_0f7a4_4 kc_J6_265 ?_
  refine aw_iand dJ6_bitCount_0f7a4_7 ?_
  refine aw_isub dJ6_bitCount_0f7a4_8 ?_
  refine aw_istore_n (L2 := [lI (x0 - ((Int32.toUInt32 x0 >>> (Int32.toUInt32 1 &&& Int32.toUInt32 31)).toInt32 &&& 1431655765))]) dJ6_bitCount_0f7a4_9 rfl (by decide) rfl ?_
  refine aw_iload_n dJ6_bitCount_0f7a4_10 rfl rfl ?_
  refine aw_ldcw dJ6_bitCount_0f7a4_11 kc_J6_266 ?_
  refine aw_iand dJ6_bitCount_0f7a4_14 ?_
  refine aw_iload_n dJ6_bitCount_0f7a4_15 rfl rfl ?_
  refine aw_iconst (v := 2) dJ6_bitCount_0f7a4_16 (by decide) ?_
  refine aw_iushr dJ6_bitCount_0f7a4_17 ?_
  refine aw_ldcw dJ6_bitCount_0f7a4_18 kc_J6_266 ?_
  refine aw_iand dJ6_bitCount_0f7a4_21 ?_
  refine aw_iadd dJ6_bitCount_0f7a4_22 ?_
  refine aw_istore_n (L2 := [lI (((x0 - ((Int32.toUInt32 x0 >>> (Int32.toUInt32 1 &&& Int32.toUInt32 31)).toInt32 &&& 1431655765)) &&& 858993459) + ((Int32.toUInt32 (x0 - ((Int32.toUInt32 x0 >>> (Int32.toUInt32 1 &&& Int32.toUInt32 31)).toInt32 &&& 1431655765)) >>> (Int32.toUInt32 2 &&& Int32.toUInt32 31)).toInt32 &&& 858993459))]) dJ6_bitCount_0f7a4_23 rfl (by decide) rfl ?_
  refine aw_iload_n dJ6_bitCount_0f7a4_24 rfl rfl ?_
  refine aw_iload_n dJ6_bitCount_0f7a4_25 rfl rfl ?_
  refine aw_iconst (v := 4) dJ6_bitCount_0f7a4_26 (by decide) ?_
  refine aw_iushr dJ6_bitCount_0f7a4_27 ?_
  refine aw_iadd dJ6_bitCount_0f7a4_28 ?_
  refine aw_ldcw dJ6_bitCount_0f7a4_29 kc_J6_267 ?_
  refine aw_iand dJ6_bitCount_0f7a4_32 ?_
  refine aw_istore_n (L2 := [lI (((((x0 - ((Int32.toUInt32 x0 >>> (Int32.toUInt32 1 &&& Int32.toUInt32 31)).toInt32 &&& 1431655765)) &&& 858993459) + ((Int32.toUInt32 (x0 - ((Int32.toUInt32 x0 >>> (Int32.toUInt32 1 &&& Int32.toUInt32 31)).toInt32 &&& 1431655765)) >>> (Int32.toUInt32 2 &&& Int32.toUInt32 31)).toInt32 &&& 858993459)) + (Int32.toUInt32 (((x0 - ((Int32.toUInt32 x0 >>> (Int32.toUInt32 1 &&& Int32.toUInt32 31)).toInt32 &&& 1431655765)) &&& 858993459) + ((Int32.toUInt32 (x0 - ((Int32.toUInt32 x0 >>> (Int32.toUInt32 1 &&& Int32.toUInt32 31)).toInt32 &&& 1431655765)) >>> (Int32.toUInt32 2 &&& Int32.toUInt32 31)).toInt32 &&& 858993459)) >>> (Int32.toUInt32 4 &&& Int32.toUInt32 31)).toInt32) &&& 252645135)]) dJ6_bitCount_0f7a4_33 rfl (by decide) rfl ?_
  refine aw_iload_n dJ6_bitCount_0f7a4_34 rfl rfl ?_
  refine aw_iload_n dJ6_bitCount_0f7a4_35 rfl rfl ?_
  refine aw_bipush (v := 8) dJ6_bitCount_0f7a4_36 (by decide) ?_
  refine aw_iushr dJ6_bitCount_0f7a4_38 ?_
  refine aw_iadd dJ6_bitCount_0f7a4_39 ?_
  refine aw_istore_n (L2 := [lI ((((((x0 - ((Int32.toUInt32 x0 >>> (Int32.toUInt32 1 &&& Int32.toUInt32 31)).toInt32 &&& 1431655765)) &&& 858993459) + ((Int32.toUInt32 (x0 - ((Int32.toUInt32 x0 >>> (Int32.toUInt32 1 &&& Int32.toUInt32 31)).toInt32 &&& 1431655765)) >>> (Int32.toUInt32 2 &&& Int32.toUInt32 31)).toInt32 &&& 858993459)) + (Int32.toUInt32 (((x0 - ((Int32.toUInt32 x0 >>> (Int32.toUInt32 1 &&& Int32.toUInt32 31)).toInt32 &&& 1431655765)) &&& 858993459) + ((Int32.toUInt32 (x0 - ((Int32.toUInt32 x0 >>> (Int32.toUInt32 1 &&& Int32.toUInt32 31)).toInt32 &&& 1431655765)) >>> (Int32.toUInt32 2 &&& Int32.toUInt32 31)).toInt32 &&& 858993459)) >>> (Int32.toUInt32 4 &&& Int32.toUInt32 31)).toInt32) &&& 252645135) + (Int32.toUInt32 (((((x0 - ((Int32.toUInt32 x0 >>> (Int32.toUInt32 1 &&& Int32.toUInt32 31)).toInt32 &&& 1431655765)) &&& 858993459) + ((Int32.toUInt32 (x0 - ((Int32.toUInt32 x0 >>> (Int32.toUInt32 1 &&& Int32.toUInt32 31)).toInt32 &&& 1431655765)) >>> (Int32.toUInt32 2 &&& Int32.toUInt32 31)).toInt32 &&& 858993459)) + (Int32.toUInt32 (((x0 - ((Int32.toUInt32 x0 >>> (Int32.toUInt32 1 &&& Int32.toUInt32 31)).toInt32 &&& 1431655765)) &&& 858993459) + ((Int32.toUInt32 (x0 - ((Int32.toUInt32 x0 >>> (Int32.toUInt32 1 &&& Int32.toUInt32 31)).toInt32 &&& 1431655765)) >>> (Int32.toUInt32 2 &&& Int32.toUInt32 31)).toInt32 &&& 858993459)) >>> (Int32.toUInt32 4 &&& Int32.toUInt32 31)).toInt32) &&& 252645135) >>> (Int32.toUInt32 8 &&& Int32.toUInt32 31)).toInt32)]) dJ6_bitCount_0f7a4_40 rfl (by decide) rfl ?_
  refine aw_iload_n dJ6_bitCount_0f7a4_41 rfl rfl ?_
  refine aw_iload_n dJ6_bitCount_0f7a4_42 rfl rfl ?_
  refine aw_bipush (v := 16) dJ6_bitCount_0f7a4_43 (by decide) ?_
  refine aw_iushr dJ6_bitCount_0f7a4_45 ?_
  refine aw_iadd dJ6_bitCount_0f7a4_46 ?_
  refine aw_istore_n (L2 := [lI (((((((x0 - ((Int32.toUInt32 x0 >>> (Int32.toUInt32 1 &&& Int32.toUInt32 31)).toInt32 &&& 1431655765)) &&& 858993459) + ((Int32.toUInt32 (x0 - ((Int32.toUInt32 x0 >>> (Int32.toUInt32 1 &&& Int32.toUInt32 31)).toInt32 &&& 1431655765)) >>> (Int32.toUInt32 2 &&& Int32.toUInt32 31)).toInt32 &&& 858993459)) + (Int32.toUInt32 (((x0 - ((Int32.toUInt32 x0 >>> (Int32.toUInt32 1 &&& Int32.toUInt32 31)).toInt32 &&& 1431655765)) &&& 858993459) + ((Int32.toUInt32 (x0 - ((Int32.toUInt32 x0 >>> (Int32.toUInt32 1 &&& Int32.toUInt32 31)).toInt32 &&& 1431655765)) >>> (Int32.toUInt32 2 &&& Int32.toUInt32 31)).toInt32 &&& 858993459)) >>> (Int32.toUInt32 4 &&& Int32.toUInt32 31)).toInt32) &&& 252645135) + (Int32.toUInt32 (((((x0 - ((Int32.toUInt32 x0 >>> (Int32.toUInt32 1 &&& Int32.toUInt32 31)).toInt32 &&& 1431655765)) &&& 858993459) + ((Int32.toUInt32 (x0 - ((Int32.toUInt32 x0 >>> (Int32.toUInt32 1 &&& Int32.toUInt32 31)).toInt32 &&& 1431655765)) >>> (Int32.toUInt32 2 &&& Int32.toUInt32 31)).toInt32 &&& 858993459)) + (Int32.toUInt32 (((x0 - ((Int32.toUInt32 x0 >>> (Int32.toUInt32 1 &&& Int32.toUInt32 31)).toInt32 &&& 1431655765)) &&& 858993459) + ((Int32.toUInt32 (x0 - ((Int32.toUInt32 x0 >>> (Int32.toUInt32 1 &&& Int32.toUInt32 31)).toInt32 &&& 1431655765)) >>> (Int32.toUInt32 2 &&& Int32.toUInt32 31)).toInt32 &&& 858993459)) >>> (Int32.toUInt32 4 &&& Int32.toUInt32 31)).toInt32) &&& 252645135) >>> (Int32.toUInt32 8 &&& Int32.toUInt32 31)).toInt32) + (Int32.toUInt32 ((((((x0 - ((Int32.toUInt32 x0 >>> (Int32.toUInt32 1 &&& Int32.toUInt32 31)).toInt32 &&& 1431655765)) &&& 858993459) + ((Int32.toUInt32 (x0 - ((Int32.toUInt32 x0 >>> (Int32.toUInt32 1 &&& Int32.toUInt32 31)).toInt32 &&& 1431655765)) >>> (Int32.toUInt32 2 &&& Int32.toUInt32 31)).toInt32 &&& 858993459)) + (Int32.toUInt32 (((x0 - ((Int32.toUInt32 x0 >>> (Int32.toUInt32 1 &&& Int32.toUInt32 31)).toInt32 &&& 1431655765)) &&& 858993459) + ((Int32.toUInt32 (x0 - ((Int32.toUInt32 x0 >>> (Int32.toUInt32 1 &&& Int32.toUInt32 31)).toInt32 &&& 1431655765)) >>> (Int32.toUInt32 2 &&& Int32.toUInt32 31)).toInt32 &&& 858993459)) >>> (Int32.toUInt32 4 &&& Int32.toUInt32 31)).toInt32) &&& 252645135) + (Int32.toUInt32 (((((x0 - ((Int32.toUInt32 x0 >>> (Int32.toUInt32 1 &&& Int32.toUInt32 31)).toInt32 &&& 1431655765)) &&& 858993459) + ((Int32.toUInt32 (x0 - ((Int32.toUInt32 x0 >>> (Int32.toUInt32 1 &&& Int32.toUInt32 31)).toInt32 &&& 1431655765)) >>> (Int32.toUInt32 2 &&& Int32.toUInt32 31)).toInt32 &&& 858993459)) + (Int32.toUInt32 (((x0 - ((Int32.toUInt32 x0 >>> (Int32.toUInt32 1 &&& Int32.toUInt32 31)).toInt32 &&& 1431655765)) &&& 858993459) + ((Int32.toUInt32 (x0 - ((Int32.toUInt32 x0 >>> (Int32.toUInt32 1 &&& Int32.toUInt32 31)).toInt32 &&& 1431655765)) >>> (Int32.toUInt32 2 &&& Int32.toUInt32 31)).toInt32 &&& 858993459)) >>> (Int32.toUInt32 4 &&& Int32.toUInt32 31)).toInt32) &&& 252645135) >>> (Int32.toUInt32 8 &&& Int32.toUInt32 31)).toInt32) >>> (Int32.toUInt32 16 &&& Int32.toUInt32 31)).toInt32)]) dJ6_bitCount_0f7a4_47 rfl (by decide) rfl ?_
  refine aw_iload_n dJ6_bitCount_0f7a4_48 rfl rfl ?_
  refine aw_bipush (v := 63) dJ6_bitCount_0f7a4_49 (by decide) ?_
  refine aw_iand dJ6_bitCount_0f7a4_51 ?_
  exact aw_iret dJ6_bitCount_0f7a4_52 rfl rfl h
