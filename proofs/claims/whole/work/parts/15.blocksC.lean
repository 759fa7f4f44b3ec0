abbrev AX4_tellTime (d : Nat) (Q : Option Int32 → Mem → Prop) (pc : Nat) (L : List (Option Value)) (st : List Value) (M : Mem) : Prop := AW none RX4 cX4_tellTime 3 none d Q pc L st M
theorem eX4_tellTime {d : Nat} {Q : Option Int32 → Mem → Prop} {lt : Nat} (M : Mem) (x1 x2 : Int32) (h : AX4_tellTime d Q 0 [lR lt, lI x1, lI x2] [] M) : AM d iX4_tellTime [.ref lt, .int x1, .int x2] M Q := AM.of2 (by decide) rfl rfl h
theorem bX4_tellTime_0 {d : Nat} {Q : Option Int32 → Mem → Prop} {lt : Nat} (h_lt : isT lt) (M : Mem) (x1 x2 : Int32) (h : Q none (wr (wr M (lt + 1) 10 x1) (lt + 1) 11 x2)) : AX4_tellTime d Q 0 [lR lt, lI x1, lI x2] [] M := by
  refine aw_aload_n dX4_tellTime_0 rfl rfl ?_
  refine aw_getf dX4_tellTime_1 fl_X4_17 (kT0 h_lt) (cT0 h_lt) rfl (v := .ref (lt + 1)) rfl ?_
  refine aw_bipush (v := 10) dX4_tellTime_4 (by decide) ?_
  refine aw_iload_n dX4_tellTime_6 rfl rfl ?_
  refine aw_iast dX4_tellTime_7 (kT1 h_lt) (cT1 h_lt) (by unfold vp_in; decide) ?_
  refine aw_aload_n dX4_tellTime_8 rfl rfl ?_
  refine aw_getf dX4_tellTime_9 fl_X4_17 (kT0 h_lt) (cT0 h_lt) rfl (v := .ref (lt + 1)) rfl ?_
  refine aw_bipush (v := 11) dX4_tellTime_12 (by decide) ?_
  refine aw_iload_n dX4_tellTime_14 rfl rfl ?_
  refine aw_iast dX4_tellTime_15 (kT1 h_lt) (cT1 h_lt) (by unfold vp_in; decide) ?_
  exact aw_vret dX4_tellTime_16 rfl h
abbrev AX7_addWord (d : Nat) (Q : Option Int32 → Mem → Prop) (pc : Nat) (L : List (Option Value)) (st : List Value) (M : Mem) : Prop := AW none RX7 cX7_addWord 3 none d Q pc L st M
theorem eX7_addWord {d : Nat} {Q : Option Int32 → Mem → Prop} (M : Mem) (x1 : Int32) (h : AX7_addWord d Q 0 [lR 34, lI x1, none] [] M) : AM d iX7_addWord [.ref 34, .int x1] M Q := AM.of2 (by decide) rfl rfl h
theorem bX7_addWord_0 {d : Nat} {Q : Option Int32 → Mem → Prop} (M : Mem) (x1 : Int32) (h : AX7_addWord d Q 3 [lR 34, lI x1, lI 24] [] M) : AX7_addWord d Q 0 [lR 34, lI x1, none] [] M := by
  refine aw_bipush (v := 24) dX7_addWord_0 (by decide) ?_
  refine aw_istore_n (L2 := [lR 34, lI x1, lI 24]) dX7_addWord_2 rfl (by decide) rfl ?_
  exact h
theorem bX7_addWord_3 {d : Nat} {Q : Option Int32 → Mem → Prop} (M : Mem) (x1 x2 : Int32) (h : (x2 < 0 → Q none M) ∧ (¬ x2 < 0 → (200 ≤ (M 34 1) → Q none M) ∧ (¬ 200 ≤ (M 34 1) → (vp_in (M 34 1) 200) ∧ (AX7_addWord d Q 3 [lR 34, lI x1, lI (x2 + (-8))] [] (wr (wr M 35 (ix (M 34 1)) ((x1 >>> (x2 &&& 31)) &&& 255)) 34 1 ((M 34 1) + 1)))))) : AX7_addWord d Q 3 [lR 34, lI x1, lI x2] [] M := by
  refine aw_iload_n dX7_addWord_3 rfl rfl ?_
  refine aw_if_lt (tgt := 49) dX7_addWord_4 (by decide) (fun z => ?_) (fun z => ?_)
  · replace h := h.1 z
    exact aw_vret dX7_addWord_49 rfl h
  · replace h := h.2 z
    refine aw_aload_n dX7_addWord_7 rfl rfl ?_
    refine aw_getf dX7_addWord_8 fl_X7_15 (by decide) ce_34 rfl (v := .int (M 34 1)) rfl ?_
    refine aw_sipush (v := 200) dX7_addWord_11 (by decide) ?_
    refine aw_icmp_ge (tgt := 49) dX7_addWord_14 (by decide) (fun z => ?_) (fun z => ?_)
    · replace h := h.1 z
      exact aw_vret dX7_addWord_49 rfl h
    · replace h := h.2 z
      refine aw_aload_n dX7_addWord_17 rfl rfl ?_
      refine aw_getf dX7_addWord_18 fl_X7_9 (by decide) ce_34 rfl (v := .ref 35) rfl ?_
      refine aw_aload_n dX7_addWord_21 rfl rfl ?_
      refine aw_getf dX7_addWord_22 fl_X7_15 (by decide) ce_34 rfl (v := .int (M 34 1)) rfl ?_
      refine aw_iload_n dX7_addWord_25 rfl rfl ?_
      refine aw_iload_n dX7_addWord_26 rfl rfl ?_
      refine aw_ishr dX7_addWord_27 ?_
      refine aw_sipush (v := 255) dX7_addWord_28 (by decide) ?_
      refine aw_iand dX7_addWord_31 ?_
      obtain ⟨h9, h⟩ := h
      refine aw_iast dX7_addWord_32 (by decide) ce_35 h9 ?_
      refine aw_aload_n dX7_addWord_33 rfl rfl ?_
      refine aw_dup dX7_addWord_34 rfl ?_
      refine aw_getf dX7_addWord_35 fl_X7_15 (by decide) ce_34 rfl (v := .int (M 34 1)) rfl ?_
      refine aw_iconst (v := 1) dX7_addWord_38 (by decide) ?_
      refine aw_iadd dX7_addWord_39 ?_
      refine aw_putf dX7_addWord_40 fp_X7_15 (by decide) ce_34 rfl rfl rfl ?_
      refine aw_iinc (y := (-8)) (L2 := [lR 34, lI x1, lI (x2 + (-8))]) dX7_addWord_43 rfl (by decide) (by decide) rfl ?_
      refine aw_goto (tgt := 3) dX7_addWord_46 (by decide) ?_
      exact h
abbrev AX7_wordAt (d : Nat) (Q : Option Int32 → Mem → Prop) (pc : Nat) (L : List (Option Value)) (st : List Value) (M : Mem) : Prop := AW none RX7 cX7_wordAt 5 (some .int) d Q pc L st M
theorem eX7_wordAt {d : Nat} {Q : Option Int32 → Mem → Prop} (M : Mem) (x1 : Int32) (h : AX7_wordAt d Q 0 [lR 34, lI x1, none, none, none] [] M) : AM d iX7_wordAt [.ref 34, .int x1] M Q := AM.of2 (by decide) rfl rfl h
theorem bX7_wordAt_0 {d : Nat} {Q : Option Int32 → Mem → Prop} (M : Mem) (x1 : Int32) (h : AX7_wordAt d Q 9 [lR 34, none, lI 0, lI (x1 * 4), lI (x1 * 4)] [] M) : AX7_wordAt d Q 0 [lR 34, lI x1, none, none, none] [] M := by
  refine aw_iconst (v := 0) dX7_wordAt_0 (by decide) ?_
  refine aw_istore_n (L2 := [lR 34, lI x1, lI 0, none, none]) dX7_wordAt_1 rfl (by decide) rfl ?_
  refine aw_iload_n dX7_wordAt_2 rfl rfl ?_
  refine aw_iconst (v := 4) dX7_wordAt_3 (by decide) ?_
  refine aw_imul dX7_wordAt_4 ?_
  refine aw_istore_n (L2 := [lR 34, lI x1, lI 0, lI (x1 * 4), none]) dX7_wordAt_5 rfl (by decide) rfl ?_
  refine aw_iload_n dX7_wordAt_6 rfl rfl ?_
  refine aw_istore (L2 := [lR 34, lI x1, lI 0, lI (x1 * 4), lI (x1 * 4)]) dX7_wordAt_7 (by decide) rfl ?_
  exact aw_less (less_k (less_d (less_k (less_k (less_k less_nil))))) h
theorem bX7_wordAt_9 {d : Nat} {Q : Option Int32 → Mem → Prop} (M : Mem) (x2 x3 x4 : Int32) (h : (x4 < 0 → Q (some x2) M) ∧ (¬ x4 < 0 → ((x3 + 4) ≤ x4 → Q (some x2) M) ∧ (¬ (x3 + 4) ≤ x4 → (200 ≤ x4 → Q (some x2) M) ∧ (¬ 200 ≤ x4 → (vp_in x4 200) ∧ (AX7_wordAt d Q 9 [lR 34, none, lI ((x2 <<< (8 &&& 31)) ||| (M 35 (ix x4))), lI x3, lI (x4 + 1)] [] M))))) : AX7_wordAt d Q 9 [lR 34, none, lI x2, lI x3, lI x4] [] M := by
  refine aw_iload dX7_wordAt_9 rfl ?_
  refine aw_if_lt (tgt := 49) dX7_wordAt_11 (by decide) (fun z => ?_) (fun z => ?_)
  · replace h := h.1 z
    refine aw_iload_n dX7_wordAt_49 rfl rfl ?_
    exact aw_iret dX7_wordAt_50 rfl rfl h
  · replace h := h.2 z
    refine aw_iload dX7_wordAt_14 rfl ?_
    refine aw_iload_n dX7_wordAt_16 rfl rfl ?_
    refine aw_iconst (v := 4) dX7_wordAt_17 (by decide) ?_
    refine aw_iadd dX7_wordAt_18 ?_
    refine aw_icmp_ge (tgt := 49) dX7_wordAt_19 (by decide) (fun z => ?_) (fun z => ?_)
    · replace h := h.1 z
      refine aw_iload_n dX7_wordAt_49 rfl rfl ?_
      exact aw_iret dX7_wordAt_50 rfl rfl h
    · replace h := h.2 z
      refine aw_iload dX7_wordAt_22 rfl ?_
      refine aw_sipush (v := 200) dX7_wordAt_24 (by decide) ?_
      refine aw_icmp_ge (tgt := 49) dX7_wordAt_27 (by decide) (fun z => ?_) (fun z => ?_)
      · replace h := h.1 z
        refine aw_iload_n dX7_wordAt_49 rfl rfl ?_
        exact aw_iret dX7_wordAt_50 rfl rfl h
      · replace h := h.2 z
        refine aw_iload_n dX7_wordAt_30 rfl rfl ?_
        refine aw_bipush (v := 8) dX7_wordAt_31 (by decide) ?_
        refine aw_ishl dX7_wordAt_33 ?_
        refine aw_aload_n dX7_wordAt_34 rfl rfl ?_
        refine aw_getf dX7_wordAt_35 fl_X7_9 (by decide) ce_34 rfl (v := .ref 35) rfl ?_
        refine aw_iload dX7_wordAt_38 rfl ?_
        obtain ⟨h9, h⟩ := h
        refine aw_iald dX7_wordAt_40 (by decide) ce_35 h9 ?_
        refine aw_ior dX7_wordAt_41 ?_
        refine aw_istore_n (L2 := [lR 34, none, lI ((x2 <<< (8 &&& 31)) ||| (M 35 (ix x4))), lI x3, lI x4]) dX7_wordAt_42 rfl (by decide) rfl ?_
        refine aw_iinc (y := 1) (L2 := [lR 34, none, lI ((x2 <<< (8 &&& 31)) ||| (M 35 (ix x4))), lI x3, lI (x4 + 1)]) dX7_wordAt_43 rfl (by decide) (by decide) rfl ?_
        refine aw_goto (tgt := 9) dX7_wordAt_46 (by decide) ?_
        exact h
abbrev AX2_clear (d : Nat) (Q : Option Int32 → Mem → Prop) (pc : Nat) (L : List (Option Value)) (st : List Value) (M : Mem) : Prop := AW none RX2 cX2_clear 1 none d Q pc L st M
theorem eX2_clear {d : Nat} {Q : Option Int32 → Mem → Prop} {la : Nat} (M : Mem) (h : AX2_clear d Q 0 [lR la] [] M) : AM d iX2_clear [.ref la] M Q := AM.of2 (by decide) rfl rfl h
theorem bX2_clear_0 {d : Nat} {Q : Option Int32 → Mem → Prop} {la : Nat} (h_la : isA la) (M : Mem) (h : Q none (wr (wr M la 0 0) la 1 0)) : AX2_clear d Q 0 [lR la] [] M := by
  refine aw_aload_n dX2_clear_0 rfl rfl ?_
  refine aw_iconst (v := 0) dX2_clear_1 (by decide) ?_
  refine aw_putf dX2_clear_2 fp_X2_33 (kA0 h_la) (cA0 h_la) rfl rfl rfl ?_
  refine aw_aload_n dX2_clear_5 rfl rfl ?_
  refine aw_iconst (v := 0) dX2_clear_6 (by decide) ?_
  refine aw_putf dX2_clear_7 fp_X2_37 (kA0 h_la) (cA0 h_la) rfl rfl rfl ?_
  exact aw_vret dX2_clear_10 rfl h
abbrev AX2_addSign (d : Nat) (Q : Option Int32 → Mem → Prop) (pc : Nat) (L : List (Option Value)) (st : List Value) (M : Mem) : Prop := AW none RX2 cX2_addSign 4 (some .int) d Q pc L st M
theorem eX2_addSign {d : Nat} {Q : Option Int32 → Mem → Prop} {la : Nat} (M : Mem) (x1 x2 : Int32) (h : AX2_addSign d Q 0 [lR la, lI x1, lI x2, none] [] M) : AM d iX2_addSign [.ref la, .int x1, .int x2] M Q := AM.of2 (by decide) rfl rfl h
theorem bX2_addSign_0 {d : Nat} {Q : Option Int32 → Mem → Prop} {la : Nat} (h_la : isA la) (M : Mem) (x1 x2 : Int32) (h : (160 ≤ (M la 1) → Q (some (M la 1)) M) ∧ (¬ 160 ≤ (M la 1) → (vp_in (M la 1) 160) ∧ ((vp_in ((wr M (la + 1) (ix (M la 1)) x1) la 1) 160) ∧ (Q (some (M la 1)) (wr (wr (wr M (la + 1) (ix (M la 1)) x1) (la + 2) (ix ((wr M (la + 1) (ix (M la 1)) x1) la 1)) x2) la 1 (((wr (wr M (la + 1) (ix (M la 1)) x1) (la + 2) (ix ((wr M (la + 1) (ix (M la 1)) x1) la 1)) x2) la 1) + 1)))))) : AX2_addSign d Q 0 [lR la, lI x1, lI x2, none] [] M := by
  refine aw_aload_n dX2_addSign_0 rfl rfl ?_
  refine aw_getf dX2_addSign_1 fl_X2_37 (kA0 h_la) (cA0 h_la) rfl (v := .int (M la 1)) rfl ?_
  refine aw_istore_n (L2 := [lR la, lI x1, lI x2, lI (M la 1)]) dX2_addSign_4 rfl (by decide) rfl ?_
  refine aw_aload_n dX2_addSign_5 rfl rfl ?_
  refine aw_getf dX2_addSign_6 fl_X2_37 (kA0 h_la) (cA0 h_la) rfl (v := .int (M la 1)) rfl ?_
  refine aw_sipush (v := 160) dX2_addSign_9 (by decide) ?_
  refine aw_icmp_ge (tgt := 45) dX2_addSign_12 (by decide) (fun z => ?_) (fun z => ?_)
  · replace h := h.1 z
    refine aw_iload_n dX2_addSign_45 rfl rfl ?_
    exact aw_iret dX2_addSign_46 rfl rfl h
  · replace h := h.2 z
    refine aw_aload_n dX2_addSign_15 rfl rfl ?_
    refine aw_getf dX2_addSign_16 fl_X2_9 (kA0 h_la) (cA0 h_la) rfl (v := .ref (la + 1)) rfl ?_
    refine aw_aload_n dX2_addSign_19 rfl rfl ?_
    refine aw_getf dX2_addSign_20 fl_X2_37 (kA0 h_la) (cA0 h_la) rfl (v := .int (M la 1)) rfl ?_
    refine aw_iload_n dX2_addSign_23 rfl rfl ?_
    obtain ⟨h9, h⟩ := h
    refine aw_iast dX2_addSign_24 (kA1 h_la) (cA1 h_la) h9 ?_
    refine aw_aload_n dX2_addSign_25 rfl rfl ?_
    refine aw_getf dX2_addSign_26 fl_X2_15 (kA0 h_la) (cA0 h_la) rfl (v := .ref (la + 2)) rfl ?_
    refine aw_aload_n dX2_addSign_29 rfl rfl ?_
    refine aw_getf dX2_addSign_30 fl_X2_37 (kA0 h_la) (cA0 h_la) rfl (v := .int ((wr M (la + 1) (ix (M la 1)) x1) la 1)) rfl ?_
    refine aw_iload_n dX2_addSign_33 rfl rfl ?_
    obtain ⟨h9, h⟩ := h
    refine aw_iast dX2_addSign_34 (kA2 h_la) (cA2 h_la) h9 ?_
    refine aw_aload_n dX2_addSign_35 rfl rfl ?_
    refine aw_dup dX2_addSign_36 rfl ?_
    refine aw_getf dX2_addSign_37 fl_X2_37 (kA0 h_la) (cA0 h_la) rfl (v := .int ((wr (wr M (la + 1) (ix (M la 1)) x1) (la + 2) (ix ((wr M (la + 1) (ix (M la 1)) x1) la 1)) x2) la 1)) rfl ?_
    refine aw_iconst (v := 1) dX2_addSign_40 (by decide) ?_
    refine aw_iadd dX2_addSign_41 ?_
    refine aw_putf dX2_addSign_42 fp_X2_37 (kA0 h_la) (cA0 h_la) rfl rfl rfl ?_
    refine aw_iload_n dX2_addSign_45 rfl rfl ?_
    exact aw_iret dX2_addSign_46 rfl rfl h
abbrev AX2_leapToHere (d : Nat) (Q : Option Int32 → Mem → Prop) (pc : Nat) (L : List (Option Value)) (st : List Value) (M : Mem) : Prop := AW none RX2 cX2_leapToHere 2 none d Q pc L st M
theorem eX2_leapToHere {d : Nat} {Q : Option Int32 → Mem → Prop} {la : Nat} (M : Mem) (x1 : Int32) (h : AX2_leapToHere d Q 0 [lR la, lI x1] [] M) : AM d iX2_leapToHere [.ref la, .int x1] M Q := AM.of2 (by decide) rfl rfl h
theorem bX2_leapToHere_0 {d : Nat} {Q : Option Int32 → Mem → Prop} {la : Nat} (h_la : isA la) (M : Mem) (x1 : Int32) (h : (x1 < 0 → Q none M) ∧ (¬ x1 < 0 → ((M la 1) ≤ x1 → Q none M) ∧ (¬ (M la 1) ≤ x1 → (vp_in x1 160) ∧ (Q none (wr M (la + 2) (ix x1) (M la 1)))))) : AX2_leapToHere d Q 0 [lR la, lI x1] [] M := by
  refine aw_iload_n dX2_leapToHere_0 rfl rfl ?_
  refine aw_if_lt (tgt := 22) dX2_leapToHere_1 (by decide) (fun z => ?_) (fun z => ?_)
  · replace h := h.1 z
    exact aw_vret dX2_leapToHere_22 rfl h
  · replace h := h.2 z
    refine aw_iload_n dX2_leapToHere_4 rfl rfl ?_
    refine aw_aload_n dX2_leapToHere_5 rfl rfl ?_
    refine aw_getf dX2_leapToHere_6 fl_X2_37 (kA0 h_la) (cA0 h_la) rfl (v := .int (M la 1)) rfl ?_
    refine aw_icmp_ge (tgt := 22) dX2_leapToHere_9 (by decide) (fun z => ?_) (fun z => ?_)
    · replace h := h.1 z
      exact aw_vret dX2_leapToHere_22 rfl h
    · replace h := h.2 z
      refine aw_aload_n dX2_leapToHere_12 rfl rfl ?_
      refine aw_getf dX2_leapToHere_13 fl_X2_15 (kA0 h_la) (cA0 h_la) rfl (v := .ref (la + 2)) rfl ?_
      refine aw_iload_n dX2_leapToHere_16 rfl rfl ?_
      refine aw_aload_n dX2_leapToHere_17 rfl rfl ?_
      refine aw_getf dX2_leapToHere_18 fl_X2_37 (kA0 h_la) (cA0 h_la) rfl (v := .int (M la 1)) rfl ?_
      obtain ⟨h9, h⟩ := h
      refine aw_iast dX2_leapToHere_21 (kA2 h_la) (cA2 h_la) h9 ?_
      exact aw_vret dX2_leapToHere_22 rfl h
abbrev AX2_beginClause (d : Nat) (Q : Option Int32 → Mem → Prop) (pc : Nat) (L : List (Option Value)) (st : List Value) (M : Mem) : Prop := AW none RX2 cX2_beginClause 2 none d Q pc L st M
theorem eX2_beginClause {d : Nat} {Q : Option Int32 → Mem → Prop} {la : Nat} (M : Mem) (x1 : Int32) (h : AX2_beginClause d Q 0 [lR la, lI x1] [] M) : AM d iX2_beginClause [.ref la, .int x1] M Q := AM.of2 (by decide) rfl rfl h
theorem bX2_beginClause_0 {d : Nat} {Q : Option Int32 → Mem → Prop} {la : Nat} (h_la : isA la) (M : Mem) (x1 : Int32) (h : (12 ≤ (M la 0) → Q none M) ∧ (¬ 12 ≤ (M la 0) → (vp_in (M la 0) 12) ∧ ((vp_in ((wr M (la + 3) (ix (M la 0)) x1) la 0) 12) ∧ (Q none (wr (wr M (la + 3) (ix (M la 0)) x1) (la + 4) (ix ((wr M (la + 3) (ix (M la 0)) x1) la 0)) ((wr M (la + 3) (ix (M la 0)) x1) la 1)))))) : AX2_beginClause d Q 0 [lR la, lI x1] [] M := by
  refine aw_aload_n dX2_beginClause_0 rfl rfl ?_
  refine aw_getf dX2_beginClause_1 fl_X2_33 (kA0 h_la) (cA0 h_la) rfl (v := .int (M la 0)) rfl ?_
  refine aw_bipush (v := 12) dX2_beginClause_4 (by decide) ?_
  refine aw_icmp_ge (tgt := 32) dX2_beginClause_6 (by decide) (fun z => ?_) (fun z => ?_)
  · replace h := h.1 z
    exact aw_vret dX2_beginClause_32 rfl h
  · replace h := h.2 z
    refine aw_aload_n dX2_beginClause_9 rfl rfl ?_
    refine aw_getf dX2_beginClause_10 fl_X2_18 (kA0 h_la) (cA0 h_la) rfl (v := .ref (la + 3)) rfl ?_
    refine aw_aload_n dX2_beginClause_13 rfl rfl ?_
    refine aw_getf dX2_beginClause_14 fl_X2_33 (kA0 h_la) (cA0 h_la) rfl (v := .int (M la 0)) rfl ?_
    refine aw_iload_n dX2_beginClause_17 rfl rfl ?_
    obtain ⟨h9, h⟩ := h
    refine aw_iast dX2_beginClause_18 (kA3 h_la) (cA3 h_la) h9 ?_
    refine aw_aload_n dX2_beginClause_19 rfl rfl ?_
    refine aw_getf dX2_beginClause_20 fl_X2_21 (kA0 h_la) (cA0 h_la) rfl (v := .ref (la + 4)) rfl ?_
    refine aw_aload_n dX2_beginClause_23 rfl rfl ?_
    refine aw_getf dX2_beginClause_24 fl_X2_33 (kA0 h_la) (cA0 h_la) rfl (v := .int ((wr M (la + 3) (ix (M la 0)) x1) la 0)) rfl ?_
    refine aw_aload_n dX2_beginClause_27 rfl rfl ?_
    refine aw_getf dX2_beginClause_28 fl_X2_37 (kA0 h_la) (cA0 h_la) rfl (v := .int ((wr M (la + 3) (ix (M la 0)) x1) la 1)) rfl ?_
    obtain ⟨h9, h⟩ := h
    refine aw_iast dX2_beginClause_31 (kA4 h_la) (cA4 h_la) h9 ?_
    exact aw_vret dX2_beginClause_32 rfl h
abbrev AX2_beginCondition (d : Nat) (Q : Option Int32 → Mem → Prop) (pc : Nat) (L : List (Option Value)) (st : List Value) (M : Mem) : Prop := AW none RX2 cX2_beginCondition 1 none d Q pc L st M
theorem eX2_beginCondition {d : Nat} {Q : Option Int32 → Mem → Prop} {la : Nat} (M : Mem) (h : AX2_beginCondition d Q 0 [lR la] [] M) : AM d iX2_beginCondition [.ref la] M Q := AM.of2 (by decide) rfl rfl h
theorem bX2_beginCondition_0 {d : Nat} {Q : Option Int32 → Mem → Prop} {la : Nat} (h_la : isA la) (M : Mem) (h : (12 ≤ (M la 0) → Q none M) ∧ (¬ 12 ≤ (M la 0) → (vp_in (M la 0) 12) ∧ (Q none (wr M (la + 5) (ix (M la 0)) (M la 1))))) : AX2_beginCondition d Q 0 [lR la] [] M := by
  refine aw_aload_n dX2_beginCondition_0 rfl rfl ?_
  refine aw_getf dX2_beginCondition_1 fl_X2_33 (kA0 h_la) (cA0 h_la) rfl (v := .int (M la 0)) rfl ?_
  refine aw_bipush (v := 12) dX2_beginCondition_4 (by decide) ?_
  refine aw_icmp_ge (tgt := 22) dX2_beginCondition_6 (by decide) (fun z => ?_) (fun z => ?_)
  · replace h := h.1 z
    exact aw_vret dX2_beginCondition_22 rfl h
  · replace h := h.2 z
    refine aw_aload_n dX2_beginCondition_9 rfl rfl ?_
    refine aw_getf dX2_beginCondition_10 fl_X2_24 (kA0 h_la) (cA0 h_la) rfl (v := .ref (la + 5)) rfl ?_
    refine aw_aload_n dX2_beginCondition_13 rfl rfl ?_
    refine aw_getf dX2_beginCondition_14 fl_X2_33 (kA0 h_la) (cA0 h_la) rfl (v := .int (M la 0)) rfl ?_
    refine aw_aload_n dX2_beginCondition_17 rfl rfl ?_
    refine aw_getf dX2_beginCondition_18 fl_X2_37 (kA0 h_la) (cA0 h_la) rfl (v := .int (M la 1)) rfl ?_
    obtain ⟨h9, h⟩ := h
    refine aw_iast dX2_beginCondition_21 (kA5 h_la) (cA5 h_la) h9 ?_
    exact aw_vret dX2_beginCondition_22 rfl h
abbrev AX2_endClause (d : Nat) (Q : Option Int32 → Mem → Prop) (pc : Nat) (L : List (Option Value)) (st : List Value) (M : Mem) : Prop := AW none RX2 cX2_endClause 1 none d Q pc L st M
theorem eX2_endClause {d : Nat} {Q : Option Int32 → Mem → Prop} {la : Nat} (M : Mem) (h : AX2_endClause d Q 0 [lR la] [] M) : AM d iX2_endClause [.ref la] M Q := AM.of2 (by decide) rfl rfl h
theorem bX2_endClause_0 {d : Nat} {Q : Option Int32 → Mem → Prop} {la : Nat} (h_la : isA la) (M : Mem) (h : (12 ≤ (M la 0) → Q none M) ∧ (¬ 12 ≤ (M la 0) → (vp_in (M la 0) 12) ∧ (Q none (wr (wr M (la + 6) (ix (M la 0)) (M la 1)) la 0 (((wr M (la + 6) (ix (M la 0)) (M la 1)) la 0) + 1))))) : AX2_endClause d Q 0 [lR la] [] M := by
  refine aw_aload_n dX2_endClause_0 rfl rfl ?_
  refine aw_getf dX2_endClause_1 fl_X2_33 (kA0 h_la) (cA0 h_la) rfl (v := .int (M la 0)) rfl ?_
  refine aw_bipush (v := 12) dX2_endClause_4 (by decide) ?_
  refine aw_icmp_ge (tgt := 32) dX2_endClause_6 (by decide) (fun z => ?_) (fun z => ?_)
  · replace h := h.1 z
    exact aw_vret dX2_endClause_32 rfl h
  · replace h := h.2 z
    refine aw_aload_n dX2_endClause_9 rfl rfl ?_
    refine aw_getf dX2_endClause_10 fl_X2_27 (kA0 h_la) (cA0 h_la) rfl (v := .ref (la + 6)) rfl ?_
    refine aw_aload_n dX2_endClause_13 rfl rfl ?_
    refine aw_getf dX2_endClause_14 fl_X2_33 (kA0 h_la) (cA0 h_la) rfl (v := .int (M la 0)) rfl ?_
    refine aw_aload_n dX2_endClause_17 rfl rfl ?_
    refine aw_getf dX2_endClause_18 fl_X2_37 (kA0 h_la) (cA0 h_la) rfl (v := .int (M la 1)) rfl ?_
    obtain ⟨h9, h⟩ := h
    refine aw_iast dX2_endClause_21 (kA6 h_la) (cA6 h_la) h9 ?_
    refine aw_aload_n dX2_endClause_22 rfl rfl ?_
    refine aw_dup dX2_endClause_23 rfl ?_
    refine aw_getf dX2_endClause_24 fl_X2_33 (kA0 h_la) (cA0 h_la) rfl (v := .int ((wr M (la + 6) (ix (M la 0)) (M la 1)) la 0)) rfl ?_
    refine aw_iconst (v := 1) dX2_endClause_27 (by decide) ?_
    refine aw_iadd dX2_endClause_28 ?_
    refine aw_putf dX2_endClause_29 fp_X2_33 (kA0 h_la) (cA0 h_la) rfl rfl rfl ?_
    exact aw_vret dX2_endClause_32 rfl h
abbrev AX2_worth (d : Nat) (Q : Option Int32 → Mem → Prop) (pc : Nat) (L : List (Option Value)) (st : List Value) (M : Mem) : Prop := AW none RX2 cX2_worth 9 (some .int) d Q pc L st M
theorem eX2_worth {d : Nat} {Q : Option Int32 → Mem → Prop} {la : Nat} {q : Nat} (M : Mem) (x1 x2 : Int32) (h : AX2_worth d Q 0 [lR la, lI x1, lI x2, lR q, none, none, none, none, none] [] M) : AM d iX2_worth [.ref la, .int x1, .int x2, .ref q] M Q := AM.of2 (by decide) rfl rfl h
theorem bX2_worth_0 {d : Nat} {Q : Option Int32 → Mem → Prop} {la : Nat} (h_la : isA la) {q : Nat} (hk_q : q < K0) (hc_q : cellD q = .inr (.inl (false, 12))) (M : Mem) (x1 x2 : Int32) (h : AX2_worth (d + 1) Q 9 [lR la, none, lI x2, lR q, lI 0, lI x1, lI 0, none, none] [] M) : AX2_worth (d + 1) Q 0 [lR la, lI x1, lI x2, lR q, none, none, none, none, none] [] M := by
  refine aw_iconst (v := 0) dX2_worth_0 (by decide) ?_
  refine aw_istore (L2 := [lR la, lI x1, lI x2, lR q, lI 0, none, none, none, none]) dX2_worth_1 (by decide) rfl ?_
  refine aw_iload_n dX2_worth_3 rfl rfl ?_
  refine aw_istore (L2 := [lR la, lI x1, lI x2, lR q, lI 0, lI x1, none, none, none]) dX2_worth_4 (by decide) rfl ?_
  refine aw_iconst (v := 0) dX2_worth_6 (by decide) ?_
  refine aw_istore (L2 := [lR la, lI x1, lI x2, lR q, lI 0, lI x1, lI 0, none, none]) dX2_worth_7 (by decide) rfl ?_
  exact aw_less (less_k (less_d (less_k (less_k (less_k (less_k (less_k (less_k (less_k less_nil))))))))) h
theorem bX2_worth_9 {d : Nat} {Q : Option Int32 → Mem → Prop} {la : Nat} (h_la : isA la) {q : Nat} (hk_q : q < K0) (hc_q : cellD q = .inr (.inl (false, 12))) (M : Mem) (x2 x4 x5 x6 : Int32) (h : (160 ≤ x6 → AX2_worth (d + 1) Q 310 [lR la, none, none, none, lI x4, none, none, none, none] [] M) ∧ (¬ 160 ≤ x6 → (x5 < 0 → AX2_worth (d + 1) Q 310 [lR la, none, none, none, lI x4, none, none, none, none] [] M) ∧ (¬ x5 < 0 → (x2 ≤ x5 → AX2_worth (d + 1) Q 310 [lR la, none, none, none, lI x4, none, none, none, none] [] M) ∧ (¬ x2 ≤ x5 → (vp_in x5 160) ∧ ((x4 ≤ 0 → AX2_worth (d + 1) Q 78 [lR la, none, lI x2, lR q, lI x4, lI x5, lI x6, lI (M (la + 1) (ix x5)), none] [] M) ∧ (¬ x4 ≤ 0 → (vp_in (x4 - 1) 32) ∧ (((M (la + 7) (ix (x4 - 1))) = 0 → AX2_worth (d + 1) Q 59 [lR la, none, lI x2, lR q, lI x4, lI x5, lI x6, lI (M (la + 1) (ix x5)), none] [.int 0] M) ∧ (¬ (M (la + 7) (ix (x4 - 1))) = 0 → AX2_worth (d + 1) Q 59 [lR la, none, lI x2, lR q, lI x4, lI x5, lI x6, lI (M (la + 1) (ix x5)), none] [.int 1] M)))))))) : AX2_worth (d + 1) Q 9 [lR la, none, lI x2, lR q, lI x4, lI x5, lI x6, none, none] [] M := by
  refine aw_iload dX2_worth_9 rfl ?_
  refine aw_sipush (v := 160) dX2_worth_11 (by decide) ?_
  refine aw_icmp_ge (tgt := 310) dX2_worth_14 (by decide) (fun z => ?_) (fun z => ?_)
  · replace h := h.1 z
    exact aw_less (less_k (less_k (less_d (less_d (less_k (less_d (less_d (less_k (less_k less_nil))))))))) h
  · replace h := h.2 z
    refine aw_iload dX2_worth_17 rfl ?_
    refine aw_if_lt (tgt := 310) dX2_worth_19 (by decide) (fun z => ?_) (fun z => ?_)
    · replace h := h.1 z
      exact aw_less (less_k (less_k (less_d (less_d (less_k (less_d (less_d (less_k (less_k less_nil))))))))) h
    · replace h := h.2 z
      refine aw_iload dX2_worth_22 rfl ?_
      refine aw_iload_n dX2_worth_24 rfl rfl ?_
      refine aw_icmp_ge (tgt := 310) dX2_worth_25 (by decide) (fun z => ?_) (fun z => ?_)
      · replace h := h.1 z
        exact aw_less (less_k (less_k (less_d (less_d (less_k (less_d (less_d (less_k (less_k less_nil))))))))) h
      · replace h := h.2 z
        refine aw_aload_n dX2_worth_28 rfl rfl ?_
        refine aw_getf dX2_worth_29 fl_X2_9 (kA0 h_la) (cA0 h_la) rfl (v := .ref (la + 1)) rfl ?_
        refine aw_iload dX2_worth_32 rfl ?_
        obtain ⟨h9, h⟩ := h
        refine aw_iald dX2_worth_34 (kA1 h_la) (cA1 h_la) h9 ?_
        refine aw_istore (L2 := [lR la, none, lI x2, lR q, lI x4, lI x5, lI x6, lI (M (la + 1) (ix x5)), none]) dX2_worth_35 (by decide) rfl ?_
        refine aw_iload dX2_worth_37 rfl ?_
        refine aw_if_le (tgt := 78) dX2_worth_39 (by decide) (fun z => ?_) (fun z => ?_)
        · replace h := h.1 z
          exact h
        · replace h := h.2 z
          refine aw_aload_n dX2_worth_42 rfl rfl ?_
          refine aw_getf dX2_worth_43 fl_X2_30 (kA0 h_la) (cA0 h_la) rfl (v := .ref (la + 7)) rfl ?_
          refine aw_iload dX2_worth_46 rfl ?_
          refine aw_iconst (v := 1) dX2_worth_48 (by decide) ?_
          refine aw_isub dX2_worth_49 ?_
          obtain ⟨h9, h⟩ := h
          refine aw_iald dX2_worth_50 (kA7 h_la) (cA7 h_la) h9 ?_
          refine aw_if_eq (tgt := 58) dX2_worth_51 (by decide) (fun z => ?_) (fun z => ?_)
          · replace h := h.1 z
            refine aw_iconst (v := 0) dX2_worth_58 (by decide) ?_
            exact h
          · replace h := h.2 z
            refine aw_iconst (v := 1) dX2_worth_54 (by decide) ?_
            refine aw_goto (tgt := 59) dX2_worth_55 (by decide) ?_
            exact h
theorem bX2_worth_59 {d : Nat} {Q : Option Int32 → Mem → Prop} {la : Nat} (h_la : isA la) {q : Nat} (hk_q : q < K0) (hc_q : cellD q = .inr (.inl (false, 12))) (M : Mem) (x2 x4 x5 x6 x7 s0 : Int32) (h : (¬ x7 = 124 → AX2_worth (d + 1) Q 71 [lR la, none, lI x2, lR q, lI x4, lI x5, lI x6, lI x7, none] [.int 0, .int s0] M) ∧ (x7 = 124 → AX2_worth (d + 1) Q 71 [lR la, none, lI x2, lR q, lI x4, lI x5, lI x6, lI x7, none] [.int 1, .int s0] M)) : AX2_worth (d + 1) Q 59 [lR la, none, lI x2, lR q, lI x4, lI x5, lI x6, lI x7, none] [.int s0] M := by
  refine aw_iload dX2_worth_59 rfl ?_
  refine aw_bipush (v := 124) dX2_worth_61 (by decide) ?_
  refine aw_icmp_ne (tgt := 70) dX2_worth_63 (by decide) (fun z => ?_) (fun z => ?_)
  · replace h := h.1 z
    refine aw_iconst (v := 0) dX2_worth_70 (by decide) ?_
    exact h
  · replace h := h.2 z
    refine aw_iconst (v := 1) dX2_worth_66 (by decide) ?_
    refine aw_goto (tgt := 71) dX2_worth_67 (by decide) ?_
    exact h
theorem bX2_worth_71 {d : Nat} {Q : Option Int32 → Mem → Prop} {la : Nat} (h_la : isA la) {q : Nat} (hk_q : q < K0) (hc_q : cellD q = .inr (.inl (false, 12))) (M : Mem) (x2 x4 x5 x6 x7 s0 s1 : Int32) (h : (¬ s1 = s0 → AX2_worth (d + 1) Q 78 [lR la, none, lI x2, lR q, lI x4, lI x5, lI x6, lI x7, none] [] M) ∧ (s1 = s0 → AX2_worth (d + 1) Q 79 [lR la, none, lI x2, lR q, lI x4, lI x5, lI x6, lI x7, none] [.int 1] M)) : AX2_worth (d + 1) Q 71 [lR la, none, lI x2, lR q, lI x4, lI x5, lI x6, lI x7, none] [.int s0, .int s1] M := by
  refine aw_icmp_ne (tgt := 78) dX2_worth_71 (by decide) (fun z => ?_) (fun z => ?_)
  · replace h := h.1 z
    exact h
  · replace h := h.2 z
    refine aw_iconst (v := 1) dX2_worth_74 (by decide) ?_
    refine aw_goto (tgt := 79) dX2_worth_75 (by decide) ?_
    exact h
theorem bX2_worth_78 {d : Nat} {Q : Option Int32 → Mem → Prop} {la : Nat} (h_la : isA la) {q : Nat} (hk_q : q < K0) (hc_q : cellD q = .inr (.inl (false, 12))) (M : Mem) (x2 x4 x5 x6 x7 : Int32) (h : AX2_worth (d + 1) Q 79 [lR la, none, lI x2, lR q, lI x4, lI x5, lI x6, lI x7, none] [.int 0] M) : AX2_worth (d + 1) Q 78 [lR la, none, lI x2, lR q, lI x4, lI x5, lI x6, lI x7, none] [] M := by
  refine aw_iconst (v := 0) dX2_worth_78 (by decide) ?_
  exact h
theorem bX2_worth_79 {d : Nat} {Q : Option Int32 → Mem → Prop} {la : Nat} (h_la : isA la) {q : Nat} (hk_q : q < K0) (hc_q : cellD q = .inr (.inl (false, 12))) (M : Mem) (x2 x4 x5 x6 x7 s0 : Int32) (h : (x7 = 48 → AX2_worth (d + 1) Q 95 [lR la, none, lI x2, lR q, lI x4, lI x5, lI x6, lI x7, none] [] M) ∧ (¬ x7 = 48 → (¬ x7 = 97 → (x7 = 124 → AX2_worth (d + 1) Q 161 [lR la, none, lI x2, lR q, lI x4, lI x5, lI x6, none, lI s0] [] M) ∧ (¬ x7 = 124 → (¬ x7 = 38 → (¬ x7 = 33 → AX2_worth (d + 1) Q 243 [lR la, none, lI x2, lR q, lI x4, lI x5, lI x6, lI x7, none] [] M) ∧ (x7 = 33 → (x4 ≤ 0 → AX2_worth (d + 1) Q 243 [lR la, none, lI x2, lR q, lI x4, lI x5, lI x6, lI x7, none] [] M) ∧ (¬ x4 ≤ 0 → (vp_in (x4 - 1) 32) ∧ ((vp_in (x4 - 1) 32) ∧ (AX2_worth (d + 1) Q 9 [lR la, none, lI x2, lR q, lI x4, lI (x5 + 1), lI (x6 + 1), none, none] [] (wr M (la + 7) (ix (x4 - 1)) (1 - (M (la + 7) (ix (x4 - 1)))))))))) ∧ (x7 = 38 → AX2_worth (d + 1) Q 161 [lR la, none, lI x2, lR q, lI x4, lI x5, lI x6, none, lI s0] [] M))) ∧ (x7 = 97 → AX2_worth (d + 1) Q 95 [lR la, none, lI x2, lR q, lI x4, lI x5, lI x6, lI x7, none] [] M))) : AX2_worth (d + 1) Q 79 [lR la, none, lI x2, lR q, lI x4, lI x5, lI x6, lI x7, none] [.int s0] M := by
  refine aw_istore (L2 := [lR la, none, lI x2, lR q, lI x4, lI x5, lI x6, lI x7, lI s0]) dX2_worth_79 (by decide) rfl ?_
  refine aw_iload dX2_worth_81 rfl ?_
  refine aw_bipush (v := 48) dX2_worth_83 (by decide) ?_
  refine aw_icmp_eq (tgt := 95) dX2_worth_85 (by decide) (fun z => ?_) (fun z => ?_)
  · replace h := h.1 z
    exact aw_less (less_k (less_k (less_k (less_k (less_k (less_k (less_k (less_k (less_d less_nil))))))))) h
  · replace h := h.2 z
    refine aw_iload dX2_worth_88 rfl ?_
    refine aw_bipush (v := 97) dX2_worth_90 (by decide) ?_
    refine aw_icmp_ne (tgt := 147) dX2_worth_92 (by decide) (fun z => ?_) (fun z => ?_)
    · replace h := h.1 z
      refine aw_iload dX2_worth_147 rfl ?_
      refine aw_bipush (v := 124) dX2_worth_149 (by decide) ?_
      refine aw_icmp_eq (tgt := 161) dX2_worth_151 (by decide) (fun z => ?_) (fun z => ?_)
      · replace h := h.1 z
        exact aw_less (less_k (less_k (less_k (less_k (less_k (less_k (less_k (less_d (less_k less_nil))))))))) h
      · replace h := h.2 z
        refine aw_iload dX2_worth_154 rfl ?_
        refine aw_bipush (v := 38) dX2_worth_156 (by decide) ?_
        refine aw_icmp_ne (tgt := 205) dX2_worth_158 (by decide) (fun z => ?_) (fun z => ?_)
        · replace h := h.1 z
          refine aw_iload dX2_worth_205 rfl ?_
          refine aw_bipush (v := 33) dX2_worth_207 (by decide) ?_
          refine aw_icmp_ne (tgt := 243) dX2_worth_209 (by decide) (fun z => ?_) (fun z => ?_)
          · replace h := h.1 z
            exact aw_less (less_k (less_k (less_k (less_k (less_k (less_k (less_k (less_k (less_d less_nil))))))))) h
          · replace h := h.2 z
            refine aw_iload dX2_worth_212 rfl ?_
            refine aw_if_le (tgt := 243) dX2_worth_214 (by decide) (fun z => ?_) (fun z => ?_)
            · replace h := h.1 z
              exact aw_less (less_k (less_k (less_k (less_k (less_k (less_k (less_k (less_k (less_d less_nil))))))))) h
            · replace h := h.2 z
              refine aw_aload_n dX2_worth_217 rfl rfl ?_
              refine aw_getf dX2_worth_218 fl_X2_30 (kA0 h_la) (cA0 h_la) rfl (v := .ref (la + 7)) rfl ?_
              refine aw_iload dX2_worth_221 rfl ?_
              refine aw_iconst (v := 1) dX2_worth_223 (by decide) ?_
              refine aw_isub dX2_worth_224 ?_
              refine aw_iconst (v := 1) dX2_worth_225 (by decide) ?_
              refine aw_aload_n dX2_worth_226 rfl rfl ?_
              refine aw_getf dX2_worth_227 fl_X2_30 (kA0 h_la) (cA0 h_la) rfl (v := .ref (la + 7)) rfl ?_
              refine aw_iload dX2_worth_230 rfl ?_
              refine aw_iconst (v := 1) dX2_worth_232 (by decide) ?_
              refine aw_isub dX2_worth_233 ?_
              obtain ⟨h9, h⟩ := h
              refine aw_iald dX2_worth_234 (kA7 h_la) (cA7 h_la) h9 ?_
              refine aw_isub dX2_worth_235 ?_
              obtain ⟨h9, h⟩ := h
              refine aw_iast dX2_worth_236 (kA7 h_la) (cA7 h_la) h9 ?_
              refine aw_iinc (y := 1) (L2 := [lR la, none, lI x2, lR q, lI x4, lI (x5 + 1), lI x6, lI x7, lI s0]) dX2_worth_237 rfl (by decide) (by decide) rfl ?_
              refine aw_goto (tgt := 304) dX2_worth_240 (by decide) ?_
              refine aw_iinc (y := 1) (L2 := [lR la, none, lI x2, lR q, lI x4, lI (x5 + 1), lI (x6 + 1), lI x7, lI s0]) dX2_worth_304 rfl (by decide) (by decide) rfl ?_
              refine aw_goto (tgt := 9) dX2_worth_307 (by decide) ?_
              exact aw_less (less_k (less_k (less_k (less_k (less_k (less_k (less_k (less_d (less_d less_nil))))))))) h
        · replace h := h.2 z
          exact aw_less (less_k (less_k (less_k (less_k (less_k (less_k (less_k (less_d (less_k less_nil))))))))) h
    · replace h := h.2 z
      exact aw_less (less_k (less_k (less_k (less_k (less_k (less_k (less_k (less_k (less_d less_nil))))))))) h
theorem bX2_worth_95 {d : Nat} {Q : Option Int32 → Mem → Prop} {la : Nat} (h_la : isA la) {q : Nat} (hk_q : q < K0) (hc_q : cellD q = .inr (.inl (false, 12))) (M : Mem) (x2 x4 x5 x6 x7 : Int32) (h : (¬ x7 = 48 → (vp_in x5 160) ∧ ((vp_in (M (la + 2) (ix x5)) 12) ∧ ((vp_in ((if 32 < (x4 + 1) then 32 else (x4 + 1)) - 1) 32) ∧ (AX2_worth (d + 1) Q 9 [lR la, none, lI x2, lR q, lI (if 32 < (x4 + 1) then 32 else (x4 + 1)), lI (x5 + 1), lI (x6 + 1), none, none] [] (wr M (la + 7) (ix ((if 32 < (x4 + 1) then 32 else (x4 + 1)) - 1)) (M q (ix (M (la + 2) (ix x5))))))))) ∧ (x7 = 48 → (vp_in x5 160) ∧ ((vp_in ((if 32 < (x4 + 1) then 32 else (x4 + 1)) - 1) 32) ∧ (AX2_worth (d + 1) Q 9 [lR la, none, lI x2, lR q, lI (if 32 < (x4 + 1) then 32 else (x4 + 1)), lI (x5 + 1), lI (x6 + 1), none, none] [] (wr M (la + 7) (ix ((if 32 < (x4 + 1) then 32 else (x4 + 1)) - 1)) (M (la + 2) (ix x5))))))) : AX2_worth (d + 1) Q 95 [lR la, none, lI x2, lR q, lI x4, lI x5, lI x6, lI x7, none] [] M := by
  refine aw_iload dX2_worth_95 rfl ?_
  refine aw_iconst (v := 1) dX2_worth_97 (by decide) ?_
  refine aw_iadd dX2_worth_98 ?_
  refine aw_bipush (v := 32) dX2_worth_99 (by decide) ?_
  refine aw_mmin dX2_worth_101 ml_X2_50 mm_min_s mm_i mm_min_c (Nat.le_of_ble_eq_true rfl) ?_
  refine aw_istore (L2 := [lR la, none, lI x2, lR q, lI (if 32 < (x4 + 1) then 32 else (x4 + 1)), lI x5, lI x6, lI x7, none]) dX2_worth_104 (by decide) rfl ?_
  refine aw_aload_n dX2_worth_106 rfl rfl ?_
  refine aw_getf dX2_worth_107 fl_X2_30 (kA0 h_la) (cA0 h_la) rfl (v := .ref (la + 7)) rfl ?_
  refine aw_iload dX2_worth_110 rfl ?_
  refine aw_iconst (v := 1) dX2_worth_112 (by decide) ?_
  refine aw_isub dX2_worth_113 ?_
  refine aw_iload dX2_worth_114 rfl ?_
  refine aw_bipush (v := 48) dX2_worth_116 (by decide) ?_
  refine aw_icmp_ne (tgt := 131) dX2_worth_118 (by decide) (fun z => ?_) (fun z => ?_)
  · replace h := h.1 z
    refine aw_aload_n dX2_worth_131 rfl rfl ?_
    refine aw_aload_n dX2_worth_132 rfl rfl ?_
    refine aw_getf dX2_worth_133 fl_X2_15 (kA0 h_la) (cA0 h_la) rfl (v := .ref (la + 2)) rfl ?_
    refine aw_iload dX2_worth_136 rfl ?_
    obtain ⟨h9, h⟩ := h
    refine aw_iald dX2_worth_138 (kA2 h_la) (cA2 h_la) h9 ?_
    obtain ⟨h9, h⟩ := h
    refine aw_iald dX2_worth_139 hk_q hc_q h9 ?_
    obtain ⟨h9, h⟩ := h
    refine aw_iast dX2_worth_140 (kA7 h_la) (cA7 h_la) h9 ?_
    refine aw_iinc (y := 1) (L2 := [lR la, none, lI x2, lR q, lI (if 32 < (x4 + 1) then 32 else (x4 + 1)), lI (x5 + 1), lI x6, lI x7, none]) dX2_worth_141 rfl (by decide) (by decide) rfl ?_
    refine aw_goto (tgt := 304) dX2_worth_144 (by decide) ?_
    refine aw_iinc (y := 1) (L2 := [lR la, none, lI x2, lR q, lI (if 32 < (x4 + 1) then 32 else (x4 + 1)), lI (x5 + 1), lI (x6 + 1), lI x7, none]) dX2_worth_304 rfl (by decide) (by decide) rfl ?_
    refine aw_goto (tgt := 9) dX2_worth_307 (by decide) ?_
    exact aw_less (less_k (less_k (less_k (less_k (less_k (less_k (less_k (less_d (less_k less_nil))))))))) h
  · replace h := h.2 z
    refine aw_aload_n dX2_worth_121 rfl rfl ?_
    refine aw_getf dX2_worth_122 fl_X2_15 (kA0 h_la) (cA0 h_la) rfl (v := .ref (la + 2)) rfl ?_
    refine aw_iload dX2_worth_125 rfl ?_
    obtain ⟨h9, h⟩ := h
    refine aw_iald dX2_worth_127 (kA2 h_la) (cA2 h_la) h9 ?_
    refine aw_goto (tgt := 140) dX2_worth_128 (by decide) ?_
    obtain ⟨h9, h⟩ := h
    refine aw_iast dX2_worth_140 (kA7 h_la) (cA7 h_la) h9 ?_
    refine aw_iinc (y := 1) (L2 := [lR la, none, lI x2, lR q, lI (if 32 < (x4 + 1) then 32 else (x4 + 1)), lI (x5 + 1), lI x6, lI x7, none]) dX2_worth_141 rfl (by decide) (by decide) rfl ?_
    refine aw_goto (tgt := 304) dX2_worth_144 (by decide) ?_
    refine aw_iinc (y := 1) (L2 := [lR la, none, lI x2, lR q, lI (if 32 < (x4 + 1) then 32 else (x4 + 1)), lI (x5 + 1), lI (x6 + 1), lI x7, none]) dX2_worth_304 rfl (by decide) (by decide) rfl ?_
    refine aw_goto (tgt := 9) dX2_worth_307 (by decide) ?_
    exact aw_less (less_k (less_k (less_k (less_k (less_k (less_k (less_k (less_d (less_k less_nil))))))))) h
theorem bX2_worth_161 {d : Nat} {Q : Option Int32 → Mem → Prop} {la : Nat} (h_la : isA la) {q : Nat} (hk_q : q < K0) (hc_q : cellD q = .inr (.inl (false, 12))) (M : Mem) (x2 x4 x5 x6 x8 : Int32) (h : (x8 = 0 → AX2_worth (d + 1) Q 179 [lR la, none, lI x2, lR q, none, lI x5, lI x6, none, lI x8] [.int (if (x4 - 1) < 0 then 0 else (x4 - 1))] M) ∧ (¬ x8 = 0 → AX2_worth (d + 1) Q 179 [lR la, none, lI x2, lR q, none, lI x5, lI x6, none, lI x8] [.int x4] M)) : AX2_worth (d + 1) Q 161 [lR la, none, lI x2, lR q, lI x4, lI x5, lI x6, none, lI x8] [] M := by
  refine aw_iload dX2_worth_161 rfl ?_
  refine aw_if_eq (tgt := 171) dX2_worth_163 (by decide) (fun z => ?_) (fun z => ?_)
  · replace h := h.1 z
    refine aw_iload dX2_worth_171 rfl ?_
    refine aw_iconst (v := 1) dX2_worth_173 (by decide) ?_
    refine aw_isub dX2_worth_174 ?_
    refine aw_iconst (v := 0) dX2_worth_175 (by decide) ?_
    refine aw_mmax dX2_worth_176 ml_X2_56 mm_max_s mm_i mm_max_c (Nat.le_of_ble_eq_true rfl) (fun z9 e9 => ?_)
    subst e9
    exact aw_less (less_k (less_k (less_k (less_k (less_d (less_k (less_k (less_k (less_k less_nil))))))))) h
  · replace h := h.2 z
    refine aw_iload dX2_worth_166 rfl ?_
    refine aw_goto (tgt := 179) dX2_worth_168 (by decide) ?_
    exact aw_less (less_k (less_k (less_k (less_k (less_d (less_k (less_k (less_k (less_k less_nil))))))))) h
theorem bX2_worth_179 {d : Nat} {Q : Option Int32 → Mem → Prop} {la : Nat} (h_la : isA la) {q : Nat} (hk_q : q < K0) (hc_q : cellD q = .inr (.inl (false, 12))) (M : Mem) (x2 x5 x6 x8 s0 : Int32) (h : (x8 = 0 → AX2_worth (d + 1) Q 9 [lR la, none, lI x2, lR q, lI s0, lI (x5 + 1), lI (x6 + 1), none, none] [] M) ∧ (¬ x8 = 0 → (vp_in x5 160) ∧ (AX2_worth (d + 1) Q 9 [lR la, none, lI x2, lR q, lI s0, lI (M (la + 2) (ix x5)), lI (x6 + 1), none, none] [] M))) : AX2_worth (d + 1) Q 179 [lR la, none, lI x2, lR q, none, lI x5, lI x6, none, lI x8] [.int s0] M := by
  refine aw_istore (L2 := [lR la, none, lI x2, lR q, lI s0, lI x5, lI x6, none, lI x8]) dX2_worth_179 (by decide) rfl ?_
  refine aw_iload dX2_worth_181 rfl ?_
  refine aw_if_eq (tgt := 196) dX2_worth_183 (by decide) (fun z => ?_) (fun z => ?_)
  · replace h := h.1 z
    refine aw_iload dX2_worth_196 rfl ?_
    refine aw_iconst (v := 1) dX2_worth_198 (by decide) ?_
    refine aw_iadd dX2_worth_199 ?_
    refine aw_istore (L2 := [lR la, none, lI x2, lR q, lI s0, lI (x5 + 1), lI x6, none, lI x8]) dX2_worth_200 (by decide) rfl ?_
    refine aw_goto (tgt := 304) dX2_worth_202 (by decide) ?_
    refine aw_iinc (y := 1) (L2 := [lR la, none, lI x2, lR q, lI s0, lI (x5 + 1), lI (x6 + 1), none, lI x8]) dX2_worth_304 rfl (by decide) (by decide) rfl ?_
    refine aw_goto (tgt := 9) dX2_worth_307 (by decide) ?_
    exact aw_less (less_k (less_k (less_k (less_k (less_k (less_k (less_k (less_k (less_d less_nil))))))))) h
  · replace h := h.2 z
    refine aw_aload_n dX2_worth_186 rfl rfl ?_
    refine aw_getf dX2_worth_187 fl_X2_15 (kA0 h_la) (cA0 h_la) rfl (v := .ref (la + 2)) rfl ?_
    refine aw_iload dX2_worth_190 rfl ?_
    obtain ⟨h9, h⟩ := h
    refine aw_iald dX2_worth_192 (kA2 h_la) (cA2 h_la) h9 ?_
    refine aw_goto (tgt := 200) dX2_worth_193 (by decide) ?_
    refine aw_istore (L2 := [lR la, none, lI x2, lR q, lI s0, lI (M (la + 2) (ix x5)), lI x6, none, lI x8]) dX2_worth_200 (by decide) rfl ?_
    refine aw_goto (tgt := 304) dX2_worth_202 (by decide) ?_
    refine aw_iinc (y := 1) (L2 := [lR la, none, lI x2, lR q, lI s0, lI (M (la + 2) (ix x5)), lI (x6 + 1), none, lI x8]) dX2_worth_304 rfl (by decide) (by decide) rfl ?_
    refine aw_goto (tgt := 9) dX2_worth_307 (by decide) ?_
    exact aw_less (less_k (less_k (less_k (less_k (less_k (less_k (less_k (less_k (less_d less_nil))))))))) h
theorem bX2_worth_243 {d : Nat} {Q : Option Int32 → Mem → Prop} {la : Nat} (h_la : isA la) {q : Nat} (hk_q : q < K0) (hc_q : cellD q = .inr (.inl (false, 12))) (M : Mem) (x2 x4 x5 x6 x7 : Int32) (h : (x4 < 2 → Q (some 0) M) ∧ (¬ x4 < 2 → (vp_in (x4 - 1) 32) ∧ (((refV x7 (M (la + 7) (ix (x4 - 1)))) = 0 → (vp_in ((x4 + (-1)) - 1) 32) ∧ ((vp_in (x4 + (-1)) 32) ∧ ((vp_in ((x4 + (-1)) - 1) 32) ∧ (AX2_worth (d + 1) Q 9 [lR la, none, lI x2, lR q, lI (x4 + (-1)), lI (x5 + 1), lI (x6 + 1), none, none] [] (wr M (la + 7) (ix ((x4 + (-1)) - 1)) (combV x7 (M (la + 7) (ix ((x4 + (-1)) - 1))) (M (la + 7) (ix (x4 + (-1)))))))))) ∧ (¬ (refV x7 (M (la + 7) (ix (x4 - 1)))) = 0 → Q (some 0) M)))) : AX2_worth (d + 1) Q 243 [lR la, none, lI x2, lR q, lI x4, lI x5, lI x6, lI x7, none] [] M := by
  refine aw_iload dX2_worth_243 rfl ?_
  refine aw_iconst (v := 2) dX2_worth_245 (by decide) ?_
  refine aw_icmp_lt (tgt := 266) dX2_worth_246 (by decide) (fun z => ?_) (fun z => ?_)
  · replace h := h.1 z
    refine aw_iconst (v := 0) dX2_worth_266 (by decide) ?_
    exact aw_iret dX2_worth_267 rfl rfl h
  · replace h := h.2 z
    refine aw_iload dX2_worth_249 rfl ?_
    refine aw_aload_n dX2_worth_251 rfl rfl ?_
    refine aw_getf dX2_worth_252 fl_X2_30 (kA0 h_la) (cA0 h_la) rfl (v := .ref (la + 7)) rfl ?_
    refine aw_iload dX2_worth_255 rfl ?_
    refine aw_iconst (v := 1) dX2_worth_257 (by decide) ?_
    refine aw_isub dX2_worth_258 ?_
    obtain ⟨h9, h⟩ := h
    refine aw_iald dX2_worth_259 (kA7 h_la) (cA7 h_la) h9 ?_
    refine aw_callS (mi := iX2_isRefused) (av := [.int x7, .int (M (la + 7) (ix (x4 - 1)))]) (st := []) dX2_worth_260 ml_X2_59 kX2_isRefused rfl rfl (Nat.le_of_ble_eq_true rfl) (AM.mono (p_X2_isRefused _ _) (fun r9 M9 e9 => ?_))
    obtain ⟨rfl, rfl⟩ := e9
    refine aw_if_eq (tgt := 268) dX2_worth_263 (by decide) (fun z => ?_) (fun z => ?_)
    · replace h := h.1 z
      refine aw_iinc (y := (-1)) (L2 := [lR la, none, lI x2, lR q, lI (x4 + (-1)), lI x5, lI x6, lI x7, none]) dX2_worth_268 rfl (by decide) (by decide) rfl ?_
      refine aw_aload_n dX2_worth_271 rfl rfl ?_
      refine aw_getf dX2_worth_272 fl_X2_30 (kA0 h_la) (cA0 h_la) rfl (v := .ref (la + 7)) rfl ?_
      refine aw_iload dX2_worth_275 rfl ?_
      refine aw_iconst (v := 1) dX2_worth_277 (by decide) ?_
      refine aw_isub dX2_worth_278 ?_
      refine aw_iload dX2_worth_279 rfl ?_
      refine aw_aload_n dX2_worth_281 rfl rfl ?_
      refine aw_getf dX2_worth_282 fl_X2_30 (kA0 h_la) (cA0 h_la) rfl (v := .ref (la + 7)) rfl ?_
      refine aw_iload dX2_worth_285 rfl ?_
      refine aw_iconst (v := 1) dX2_worth_287 (by decide) ?_
      refine aw_isub dX2_worth_288 ?_
      obtain ⟨h9, h⟩ := h
      refine aw_iald dX2_worth_289 (kA7 h_la) (cA7 h_la) h9 ?_
      refine aw_aload_n dX2_worth_290 rfl rfl ?_
      refine aw_getf dX2_worth_291 fl_X2_30 (kA0 h_la) (cA0 h_la) rfl (v := .ref (la + 7)) rfl ?_
      refine aw_iload dX2_worth_294 rfl ?_
      obtain ⟨h9, h⟩ := h
      refine aw_iald dX2_worth_296 (kA7 h_la) (cA7 h_la) h9 ?_
      refine aw_callS (mi := iX2_combined) (av := [.int x7, .int (M (la + 7) (ix ((x4 + (-1)) - 1))), .int (M (la + 7) (ix (x4 + (-1))))]) (st := [.int ((x4 + (-1)) - 1), .ref (la + 7)]) dX2_worth_297 ml_X2_63 kX2_combined rfl rfl (Nat.le_of_ble_eq_true rfl) (AM.mono (p_X2_combined _ _ _) (fun r9 M9 e9 => ?_))
      obtain ⟨rfl, rfl⟩ := e9
      obtain ⟨h9, h⟩ := h
      refine aw_iast dX2_worth_300 (kA7 h_la) (cA7 h_la) h9 ?_
      refine aw_iinc (y := 1) (L2 := [lR la, none, lI x2, lR q, lI (x4 + (-1)), lI (x5 + 1), lI x6, lI x7, none]) dX2_worth_301 rfl (by decide) (by decide) rfl ?_
      refine aw_iinc (y := 1) (L2 := [lR la, none, lI x2, lR q, lI (x4 + (-1)), lI (x5 + 1), lI (x6 + 1), lI x7, none]) dX2_worth_304 rfl (by decide) (by decide) rfl ?_
      refine aw_goto (tgt := 9) dX2_worth_307 (by decide) ?_
      exact aw_less (less_k (less_k (less_k (less_k (less_k (less_k (less_k (less_d (less_k less_nil))))))))) h
    · replace h := h.2 z
      refine aw_iconst (v := 0) dX2_worth_266 (by decide) ?_
      exact aw_iret dX2_worth_267 rfl rfl h
theorem bX2_worth_310 {d : Nat} {Q : Option Int32 → Mem → Prop} {la : Nat} (h_la : isA la) (M : Mem) (x4 : Int32) (h : (x4 ≤ 0 → Q (some 0) M) ∧ (¬ x4 ≤ 0 → (vp_in (x4 - 1) 32) ∧ (Q (some (M (la + 7) (ix (x4 - 1)))) M))) : AX2_worth (d + 1) Q 310 [lR la, none, none, none, lI x4, none, none, none, none] [] M := by
  refine aw_iload dX2_worth_310 rfl ?_
  refine aw_if_le (tgt := 327) dX2_worth_312 (by decide) (fun z => ?_) (fun z => ?_)
  · replace h := h.1 z
    refine aw_iconst (v := 0) dX2_worth_327 (by decide) ?_
    exact aw_iret dX2_worth_328 rfl rfl h
  · replace h := h.2 z
    refine aw_aload_n dX2_worth_315 rfl rfl ?_
    refine aw_getf dX2_worth_316 fl_X2_30 (kA0 h_la) (cA0 h_la) rfl (v := .ref (la + 7)) rfl ?_
    refine aw_iload dX2_worth_319 rfl ?_
    refine aw_iconst (v := 1) dX2_worth_321 (by decide) ?_
    refine aw_isub dX2_worth_322 ?_
    obtain ⟨h9, h⟩ := h
    refine aw_iald dX2_worth_323 (kA7 h_la) (cA7 h_la) h9 ?_
    refine aw_goto (tgt := 328) dX2_worth_324 (by decide) ?_
    exact aw_iret dX2_worth_328 rfl rfl h
abbrev AX2_anyHolds (d : Nat) (Q : Option Int32 → Mem → Prop) (pc : Nat) (L : List (Option Value)) (st : List Value) (M : Mem) : Prop := AW none RX2 cX2_anyHolds 4 (some .boolean) d Q pc L st M
theorem eX2_anyHolds {d : Nat} {Q : Option Int32 → Mem → Prop} {la : Nat} {q : Nat} (M : Mem) (x1 : Int32) (h : AX2_anyHolds d Q 0 [lR la, lI x1, lR q, none] [] M) : AM d iX2_anyHolds [.ref la, .int x1, .ref q] M Q := AM.of2 (by decide) rfl rfl h
theorem bX2_anyHolds_0 {d : Nat} {Q : Option Int32 → Mem → Prop} {la : Nat} (h_la : isA la) {q : Nat} (hk_q : q < K0) (hc_q : cellD q = .inr (.inl (false, 12))) (M : Mem) (x1 : Int32) (h : AX2_anyHolds (d + 1) Q 2 [lR la, lI x1, lR q, lI 0] [] M) : AX2_anyHolds (d + 1) Q 0 [lR la, lI x1, lR q, none] [] M := by
  refine aw_iconst (v := 0) dX2_anyHolds_0 (by decide) ?_
  refine aw_istore_n (L2 := [lR la, lI x1, lR q, lI 0]) dX2_anyHolds_1 rfl (by decide) rfl ?_
  exact h
theorem bX2_anyHolds_2 {d : Nat} {Q : Option Int32 → Mem → Prop} {la : Nat} (h_la : isA la) {q : Nat} (hk_q : q < K0) (hc_q : cellD q = .inr (.inl (false, 12))) (M : Mem) (x1 x3 : Int32) (h : ((M la 0) ≤ x3 → Q (some 0) M) ∧ (¬ (M la 0) ≤ x3 → (vp_in x3 12) ∧ ((¬ (M (la + 3) (ix x3)) = x1 → AX2_anyHolds (d + 1) Q 2 [lR la, lI x1, lR q, lI (x3 + 1)] [] M) ∧ ((M (la + 3) (ix x3)) = x1 → (vp_in x3 12) ∧ ((vp_in x3 12) ∧ (AMi d iX2_worth [.ref la, .int (M (la + 5) (ix x3)), .int (M (la + 6) (ix x3)), .ref q] M (fun r1 M1 => (r1 = 0 → AX2_anyHolds (d + 1) Q 2 [lR la, lI x1, lR q, lI (x3 + 1)] [] M1) ∧ (¬ r1 = 0 → Q (some 1) M1)))))))) : AX2_anyHolds (d + 1) Q 2 [lR la, lI x1, lR q, lI x3] [] M := by
  refine aw_iload_n dX2_anyHolds_2 rfl rfl ?_
  refine aw_aload_n dX2_anyHolds_3 rfl rfl ?_
  refine aw_getf dX2_anyHolds_4 fl_X2_33 (kA0 h_la) (cA0 h_la) rfl (v := .int (M la 0)) rfl ?_
  refine aw_icmp_ge (tgt := 48) dX2_anyHolds_7 (by decide) (fun z => ?_) (fun z => ?_)
  · replace h := h.1 z
    refine aw_iconst (v := 0) dX2_anyHolds_48 (by decide) ?_
    exact aw_iret dX2_anyHolds_49 rfl (nar_b (by decide)) h
  · replace h := h.2 z
    refine aw_aload_n dX2_anyHolds_10 rfl rfl ?_
    refine aw_getf dX2_anyHolds_11 fl_X2_18 (kA0 h_la) (cA0 h_la) rfl (v := .ref (la + 3)) rfl ?_
    refine aw_iload_n dX2_anyHolds_14 rfl rfl ?_
    obtain ⟨h9, h⟩ := h
    refine aw_iald dX2_anyHolds_15 (kA3 h_la) (cA3 h_la) h9 ?_
    refine aw_iload_n dX2_anyHolds_16 rfl rfl ?_
    refine aw_icmp_ne (tgt := 42) dX2_anyHolds_17 (by decide) (fun z => ?_) (fun z => ?_)
    · replace h := h.1 z
      refine aw_iinc (y := 1) (L2 := [lR la, lI x1, lR q, lI (x3 + 1)]) dX2_anyHolds_42 rfl (by decide) (by decide) rfl ?_
      refine aw_goto (tgt := 2) dX2_anyHolds_45 (by decide) ?_
      exact h
    · replace h := h.2 z
      refine aw_aload_n dX2_anyHolds_20 rfl rfl ?_
      refine aw_aload_n dX2_anyHolds_21 rfl rfl ?_
      refine aw_getf dX2_anyHolds_22 fl_X2_24 (kA0 h_la) (cA0 h_la) rfl (v := .ref (la + 5)) rfl ?_
      refine aw_iload_n dX2_anyHolds_25 rfl rfl ?_
      obtain ⟨h9, h⟩ := h
      refine aw_iald dX2_anyHolds_26 (kA5 h_la) (cA5 h_la) h9 ?_
      refine aw_aload_n dX2_anyHolds_27 rfl rfl ?_
      refine aw_getf dX2_anyHolds_28 fl_X2_27 (kA0 h_la) (cA0 h_la) rfl (v := .ref (la + 6)) rfl ?_
      refine aw_iload_n dX2_anyHolds_31 rfl rfl ?_
      obtain ⟨h9, h⟩ := h
      refine aw_iald dX2_anyHolds_32 (kA6 h_la) (cA6 h_la) h9 ?_
      refine aw_aload_n dX2_anyHolds_33 rfl rfl ?_
      refine aw_callV (mi := iX2_worth) (av := [.int (M (la + 5) (ix x3)), .int (M (la + 6) (ix x3)), .ref q]) (st := []) dX2_anyHolds_34 ml_X2_46 kX2_worth (kA0 h_la) (cA0 h_la) clX2 rfl rfl rfl (Nat.le_of_ble_eq_true rfl) (AM.mono h (fun r9 M1 h => ?_))
      obtain ⟨r1, rfl, h⟩ := h
      refine aw_if_eq (tgt := 42) dX2_anyHolds_37 (by decide) (fun z => ?_) (fun z => ?_)
      · replace h := h.1 z
        refine aw_iinc (y := 1) (L2 := [lR la, lI x1, lR q, lI (x3 + 1)]) dX2_anyHolds_42 rfl (by decide) (by decide) rfl ?_
        refine aw_goto (tgt := 2) dX2_anyHolds_45 (by decide) ?_
        exact h
      · replace h := h.2 z
        refine aw_iconst (v := 1) dX2_anyHolds_40 (by decide) ?_
        exact aw_iret dX2_anyHolds_41 rfl (nar_b (by decide)) h
abbrev AX2_firstWorth (d : Nat) (Q : Option Int32 → Mem → Prop) (pc : Nat) (L : List (Option Value)) (st : List Value) (M : Mem) : Prop := AW none RX2 cX2_firstWorth 6 (some .int) d Q pc L st M
theorem eX2_firstWorth {d : Nat} {Q : Option Int32 → Mem → Prop} {la : Nat} {q : Nat} (M : Mem) (x1 x2 : Int32) (h : AX2_firstWorth d Q 0 [lR la, lI x1, lI x2, lR q, none, none] [] M) : AM d iX2_firstWorth [.ref la, .int x1, .int x2, .ref q] M Q := AM.of2 (by decide) rfl rfl h
theorem bX2_firstWorth_0 {d : Nat} {Q : Option Int32 → Mem → Prop} {la : Nat} (h_la : isA la) {q : Nat} (hk_q : q < K0) (hc_q : cellD q = .inr (.inl (false, 12))) (M : Mem) (x1 x2 : Int32) (h : AX2_firstWorth (d + 1) Q 3 [lR la, lI x1, lI x2, lR q, lI 0, none] [] M) : AX2_firstWorth (d + 1) Q 0 [lR la, lI x1, lI x2, lR q, none, none] [] M := by
  refine aw_iconst (v := 0) dX2_firstWorth_0 (by decide) ?_
  refine aw_istore (L2 := [lR la, lI x1, lI x2, lR q, lI 0, none]) dX2_firstWorth_1 (by decide) rfl ?_
  exact h
theorem bX2_firstWorth_3 {d : Nat} {Q : Option Int32 → Mem → Prop} {la : Nat} (h_la : isA la) {q : Nat} (hk_q : q < K0) (hc_q : cellD q = .inr (.inl (false, 12))) (M : Mem) (x1 x2 x4 : Int32) (h : ((M la 0) ≤ x4 → Q (some 0) M) ∧ (¬ (M la 0) ≤ x4 → (vp_in x4 12) ∧ ((¬ (M (la + 3) (ix x4)) = x1 → AX2_firstWorth (d + 1) Q 3 [lR la, lI x1, lI x2, lR q, lI (x4 + 1), none] [] M) ∧ ((M (la + 3) (ix x4)) = x1 → (vp_in x4 12) ∧ ((vp_in x4 12) ∧ (AMi d iX2_worth [.ref la, .int (M (la + 5) (ix x4)), .int (M (la + 6) (ix x4)), .ref q] M (fun r1 M1 => (r1 = 0 → AX2_firstWorth (d + 1) Q 3 [lR la, lI x1, lI x2, lR q, lI (x4 + 1), none] [] M1) ∧ (¬ r1 = 0 → (vp_in x4 12) ∧ ((vp_in x4 12) ∧ (AMi d iX2_worth [.ref la, .int (M1 (la + 4) (ix x4)), .int (M1 (la + 5) (ix x4)), .ref q] M1 (fun r2 M2 => Q (some (if 0 < (if r2 < x2 then r2 else x2) then (if r2 < x2 then r2 else x2) else 0)) M2))))))))))) : AX2_firstWorth (d + 1) Q 3 [lR la, lI x1, lI x2, lR q, lI x4, none] [] M := by
  refine aw_iload dX2_firstWorth_3 rfl ?_
  refine aw_aload_n dX2_firstWorth_5 rfl rfl ?_
  refine aw_getf dX2_firstWorth_6 fl_X2_33 (kA0 h_la) (cA0 h_la) rfl (v := .int (M la 0)) rfl ?_
  refine aw_icmp_ge (tgt := 83) dX2_firstWorth_9 (by decide) (fun z => ?_) (fun z => ?_)
  · replace h := h.1 z
    refine aw_iconst (v := 0) dX2_firstWorth_83 (by decide) ?_
    exact aw_iret dX2_firstWorth_84 rfl rfl h
  · replace h := h.2 z
    refine aw_aload_n dX2_firstWorth_12 rfl rfl ?_
    refine aw_getf dX2_firstWorth_13 fl_X2_18 (kA0 h_la) (cA0 h_la) rfl (v := .ref (la + 3)) rfl ?_
    refine aw_iload dX2_firstWorth_16 rfl ?_
    obtain ⟨h9, h⟩ := h
    refine aw_iald dX2_firstWorth_18 (kA3 h_la) (cA3 h_la) h9 ?_
    refine aw_iload_n dX2_firstWorth_19 rfl rfl ?_
    refine aw_icmp_ne (tgt := 77) dX2_firstWorth_20 (by decide) (fun z => ?_) (fun z => ?_)
    · replace h := h.1 z
      refine aw_iinc (y := 1) (L2 := [lR la, lI x1, lI x2, lR q, lI (x4 + 1), none]) dX2_firstWorth_77 rfl (by decide) (by decide) rfl ?_
      refine aw_goto (tgt := 3) dX2_firstWorth_80 (by decide) ?_
      exact h
    · replace h := h.2 z
      refine aw_aload_n dX2_firstWorth_23 rfl rfl ?_
      refine aw_aload_n dX2_firstWorth_24 rfl rfl ?_
      refine aw_getf dX2_firstWorth_25 fl_X2_24 (kA0 h_la) (cA0 h_la) rfl (v := .ref (la + 5)) rfl ?_
      refine aw_iload dX2_firstWorth_28 rfl ?_
      obtain ⟨h9, h⟩ := h
      refine aw_iald dX2_firstWorth_30 (kA5 h_la) (cA5 h_la) h9 ?_
      refine aw_aload_n dX2_firstWorth_31 rfl rfl ?_
      refine aw_getf dX2_firstWorth_32 fl_X2_27 (kA0 h_la) (cA0 h_la) rfl (v := .ref (la + 6)) rfl ?_
      refine aw_iload dX2_firstWorth_35 rfl ?_
      obtain ⟨h9, h⟩ := h
      refine aw_iald dX2_firstWorth_37 (kA6 h_la) (cA6 h_la) h9 ?_
      refine aw_aload_n dX2_firstWorth_38 rfl rfl ?_
      refine aw_callV (mi := iX2_worth) (av := [.int (M (la + 5) (ix x4)), .int (M (la + 6) (ix x4)), .ref q]) (st := []) dX2_firstWorth_39 ml_X2_46 kX2_worth (kA0 h_la) (cA0 h_la) clX2 rfl rfl rfl (Nat.le_of_ble_eq_true rfl) (AM.mono h (fun r9 M1 h => ?_))
      obtain ⟨r1, rfl, h⟩ := h
      refine aw_if_eq (tgt := 77) dX2_firstWorth_42 (by decide) (fun z => ?_) (fun z => ?_)
      · replace h := h.1 z
        refine aw_iinc (y := 1) (L2 := [lR la, lI x1, lI x2, lR q, lI (x4 + 1), none]) dX2_firstWorth_77 rfl (by decide) (by decide) rfl ?_
        refine aw_goto (tgt := 3) dX2_firstWorth_80 (by decide) ?_
        exact h
      · replace h := h.2 z
        refine aw_aload_n dX2_firstWorth_45 rfl rfl ?_
        refine aw_aload_n dX2_firstWorth_46 rfl rfl ?_
        refine aw_getf dX2_firstWorth_47 fl_X2_21 (kA0 h_la) (cA0 h_la) rfl (v := .ref (la + 4)) rfl ?_
        refine aw_iload dX2_firstWorth_50 rfl ?_
        obtain ⟨h9, h⟩ := h
        refine aw_iald dX2_firstWorth_52 (kA4 h_la) (cA4 h_la) h9 ?_
        refine aw_aload_n dX2_firstWorth_53 rfl rfl ?_
        refine aw_getf dX2_firstWorth_54 fl_X2_24 (kA0 h_la) (cA0 h_la) rfl (v := .ref (la + 5)) rfl ?_
        refine aw_iload dX2_firstWorth_57 rfl ?_
        obtain ⟨h9, h⟩ := h
        refine aw_iald dX2_firstWorth_59 (kA5 h_la) (cA5 h_la) h9 ?_
        refine aw_aload_n dX2_firstWorth_60 rfl rfl ?_
        refine aw_callV (mi := iX2_worth) (av := [.int (M1 (la + 4) (ix x4)), .int (M1 (la + 5) (ix x4)), .ref q]) (st := []) dX2_firstWorth_61 ml_X2_46 kX2_worth (kA0 h_la) (cA0 h_la) clX2 rfl rfl rfl (Nat.le_of_ble_eq_true rfl) (AM.mono h (fun r9 M2 h => ?_))
        obtain ⟨r2, rfl, h⟩ := h
        refine aw_istore (L2 := [lR la, lI x1, lI x2, lR q, lI x4, lI r2]) dX2_firstWorth_64 (by decide) rfl ?_
        refine aw_iconst (v := 0) dX2_firstWorth_66 (by decide) ?_
        refine aw_iload_n dX2_firstWorth_67 rfl rfl ?_
        refine aw_iload dX2_firstWorth_68 rfl ?_
        refine aw_mmin dX2_firstWorth_70 ml_X2_50 mm_min_s mm_i mm_min_c (Nat.le_of_ble_eq_true rfl) ?_
        refine aw_mmax dX2_firstWorth_73 ml_X2_56 mm_max_s mm_i mm_max_c (Nat.le_of_ble_eq_true rfl) (fun z9 e9 => ?_)
        subst e9
        exact aw_iret dX2_firstWorth_76 rfl rfl h
abbrev AX8_heightOf (d : Nat) (Q : Option Int32 → Mem → Prop) (pc : Nat) (L : List (Option Value)) (st : List Value) (M : Mem) : Prop := AW none RX8 cX8_heightOf 4 (some .int) d Q pc L st M
theorem eX8_heightOf {d : Nat} {Q : Option Int32 → Mem → Prop} {v : Nat} (M : Mem) (x1 : Int32) (h : AX8_heightOf d Q 0 [lR v, lI x1, none, none] [] M) : AM d iX8_heightOf [.ref v, .int x1] M Q := AM.of2 (by decide) rfl rfl h
theorem bX8_heightOf_0 {d : Nat} {Q : Option Int32 → Mem → Prop} {v : Nat} (h_v : isV v) (M : Mem) (x1 : Int32) (h : (vp_in x1 16) ∧ ((¬ (M (v + 1) (ix x1)) = 4 → AX8_heightOf (d + 1) Q 44 [lR v, none, lI x1, none] [] M) ∧ ((M (v + 1) (ix x1)) = 4 → (vp_in x1 16) ∧ (((isPV (M v 7) (M (v + 5) (ix x1))) = 0 → AX8_heightOf (d + 1) Q 44 [lR v, none, lI x1, none] [] M) ∧ (¬ (isPV (M v 7) (M (v + 5) (ix x1))) = 0 → ((M (v + 5) (ix x1)) = x1 → AX8_heightOf (d + 1) Q 44 [lR v, none, lI x1, none] [] M) ∧ (¬ (M (v + 5) (ix x1)) = x1 → (vp_in (M (v + 5) (ix x1)) 16) ∧ (((M (v + 1) (ix (M (v + 5) (ix x1)))) = 4 → AX8_heightOf (d + 1) Q 44 [lR v, none, lI x1, none] [] M) ∧ (¬ (M (v + 1) (ix (M (v + 5) (ix x1)))) = 4 → AX8_heightOf (d + 1) Q 44 [lR v, none, lI (M (v + 5) (ix x1)), none] [] M)))))))) : AX8_heightOf (d + 1) Q 0 [lR v, lI x1, none, none] [] M := by
  refine aw_iload_n dX8_heightOf_0 rfl rfl ?_
  refine aw_istore_n (L2 := [lR v, lI x1, lI x1, none]) dX8_heightOf_1 rfl (by decide) rfl ?_
  refine aw_aload_n dX8_heightOf_2 rfl rfl ?_
  refine aw_getf dX8_heightOf_3 fl_X8_9 (kV0 h_v) (cV0 h_v) rfl (v := .ref (v + 1)) rfl ?_
  refine aw_iload_n dX8_heightOf_6 rfl rfl ?_
  obtain ⟨h9, h⟩ := h
  refine aw_iald dX8_heightOf_7 (kV1 h_v) (cV1 h_v) h9 ?_
  refine aw_iconst (v := 4) dX8_heightOf_8 (by decide) ?_
  refine aw_icmp_ne (tgt := 44) dX8_heightOf_9 (by decide) (fun z => ?_) (fun z => ?_)
  · replace h := h.1 z
    exact aw_less (less_k (less_d (less_k (less_k less_nil)))) h
  · replace h := h.2 z
    refine aw_aload_n dX8_heightOf_12 rfl rfl ?_
    refine aw_getf dX8_heightOf_13 fl_X8_24 (kV0 h_v) (cV0 h_v) rfl (v := .ref (v + 5)) rfl ?_
    refine aw_iload_n dX8_heightOf_16 rfl rfl ?_
    obtain ⟨h9, h⟩ := h
    refine aw_iald dX8_heightOf_17 (kV5 h_v) (cV5 h_v) h9 ?_
    refine aw_istore_n (L2 := [lR v, lI x1, lI x1, lI (M (v + 5) (ix x1))]) dX8_heightOf_18 rfl (by decide) rfl ?_
    refine aw_aload_n dX8_heightOf_19 rfl rfl ?_
    refine aw_iload_n dX8_heightOf_20 rfl rfl ?_
    refine aw_callV (mi := iX8_isPerson) (av := [.int (M (v + 5) (ix x1))]) (st := []) dX8_heightOf_21 ml_X8_65 kX8_isPerson (kV0 h_v) (cV0 h_v) clX8 rfl rfl rfl (Nat.le_of_ble_eq_true rfl) (AM.mono (p_X8_isPerson _ h_v) (fun r9 M9 e9 => ?_))
    obtain ⟨rfl, rfl⟩ := e9
    refine aw_if_eq (tgt := 44) dX8_heightOf_24 (by decide) (fun z => ?_) (fun z => ?_)
    · replace h := h.1 z
      exact aw_less (less_k (less_d (less_k (less_d less_nil)))) h
    · replace h := h.2 z
      refine aw_iload_n dX8_heightOf_27 rfl rfl ?_
      refine aw_iload_n dX8_heightOf_28 rfl rfl ?_
      refine aw_icmp_eq (tgt := 44) dX8_heightOf_29 (by decide) (fun z => ?_) (fun z => ?_)
      · replace h := h.1 z
        exact aw_less (less_k (less_d (less_k (less_d less_nil)))) h
      · replace h := h.2 z
        refine aw_aload_n dX8_heightOf_32 rfl rfl ?_
        refine aw_getf dX8_heightOf_33 fl_X8_9 (kV0 h_v) (cV0 h_v) rfl (v := .ref (v + 1)) rfl ?_
        refine aw_iload_n dX8_heightOf_36 rfl rfl ?_
        obtain ⟨h9, h⟩ := h
        refine aw_iald dX8_heightOf_37 (kV1 h_v) (cV1 h_v) h9 ?_
        refine aw_iconst (v := 4) dX8_heightOf_38 (by decide) ?_
        refine aw_icmp_eq (tgt := 44) dX8_heightOf_39 (by decide) (fun z => ?_) (fun z => ?_)
        · replace h := h.1 z
          exact aw_less (less_k (less_d (less_k (less_d less_nil)))) h
        · replace h := h.2 z
          refine aw_iload_n dX8_heightOf_42 rfl rfl ?_
          refine aw_istore_n (L2 := [lR v, lI x1, lI (M (v + 5) (ix x1)), lI (M (v + 5) (ix x1))]) dX8_heightOf_43 rfl (by decide) rfl ?_
          exact aw_less (less_k (less_d (less_k (less_d less_nil)))) h
theorem bX8_heightOf_44 {d : Nat} {Q : Option Int32 → Mem → Prop} {v : Nat} (h_v : isV v) (M : Mem) (x2 : Int32) (h : (vp_in x2 16) ∧ ((vp_in x2 16) ∧ (Q (some ((M (v + 2) (ix x2)) + (M (v + 4) (ix x2)))) M))) : AX8_heightOf (d + 1) Q 44 [lR v, none, lI x2, none] [] M := by
  refine aw_aload_n dX8_heightOf_44 rfl rfl ?_
  refine aw_getf dX8_heightOf_45 fl_X8_15 (kV0 h_v) (cV0 h_v) rfl (v := .ref (v + 2)) rfl ?_
  refine aw_iload_n dX8_heightOf_48 rfl rfl ?_
  obtain ⟨h9, h⟩ := h
  refine aw_iald dX8_heightOf_49 (kV2 h_v) (cV2 h_v) h9 ?_
  refine aw_aload_n dX8_heightOf_50 rfl rfl ?_
  refine aw_getf dX8_heightOf_51 fl_X8_21 (kV0 h_v) (cV0 h_v) rfl (v := .ref (v + 4)) rfl ?_
  refine aw_iload_n dX8_heightOf_54 rfl rfl ?_
  obtain ⟨h9, h⟩ := h
  refine aw_iald dX8_heightOf_55 (kV4 h_v) (cV4 h_v) h9 ?_
  refine aw_iadd dX8_heightOf_56 ?_
  exact aw_iret dX8_heightOf_57 rfl rfl h
abbrev AX8_tallestOne (d : Nat) (Q : Option Int32 → Mem → Prop) (pc : Nat) (L : List (Option Value)) (st : List Value) (M : Mem) : Prop := AW none RX8 cX8_tallestOne 4 (some .int) d Q pc L st M
theorem eX8_tallestOne {d : Nat} {Q : Option Int32 → Mem → Prop} {v : Nat} (M : Mem) (h : AX8_tallestOne d Q 0 [lR v, none, none, none] [] M) : AM d iX8_tallestOne [.ref v] M Q := AM.of2 (by decide) rfl rfl h
theorem bX8_tallestOne_0 {d : Nat} {Q : Option Int32 → Mem → Prop} {v : Nat} (h_v : isV v) (M : Mem) (h : AX8_tallestOne (d + 1) Q 6 [lR v, lI (-1), lI 0, lI 0] [] M) : AX8_tallestOne (d + 1) Q 0 [lR v, none, none, none] [] M := by
  refine aw_iconst (v := (-1)) dX8_tallestOne_0 (by decide) ?_
  refine aw_istore_n (L2 := [lR v, lI (-1), none, none]) dX8_tallestOne_1 rfl (by decide) rfl ?_
  refine aw_iconst (v := 0) dX8_tallestOne_2 (by decide) ?_
  refine aw_istore_n (L2 := [lR v, lI (-1), lI 0, none]) dX8_tallestOne_3 rfl (by decide) rfl ?_
  refine aw_iconst (v := 0) dX8_tallestOne_4 (by decide) ?_
  refine aw_istore_n (L2 := [lR v, lI (-1), lI 0, lI 0]) dX8_tallestOne_5 rfl (by decide) rfl ?_
  exact h
theorem bX8_tallestOne_6 {d : Nat} {Q : Option Int32 → Mem → Prop} {v : Nat} (h_v : isV v) (M : Mem) (x1 x2 x3 : Int32) (h : ((M v 7) ≤ x3 → Q (some x1) M) ∧ (¬ (M v 7) ≤ x3 → ((hasV (M v 8) x3) = 0 → AX8_tallestOne (d + 1) Q 6 [lR v, lI x1, lI x2, lI (x3 + 1)] [] M) ∧ (¬ (hasV (M v 8) x3) = 0 → AMi d iX8_heightOf [.ref v, .int x3] M (fun r1 M1 => (r1 ≤ x2 → AX8_tallestOne (d + 1) Q 6 [lR v, lI x1, lI x2, lI (x3 + 1)] [] M1) ∧ (¬ r1 ≤ x2 → AMi d iX8_heightOf [.ref v, .int x3] M1 (fun r2 M2 => AX8_tallestOne (d + 1) Q 6 [lR v, lI x3, lI r2, lI (x3 + 1)] [] M2)))))) : AX8_tallestOne (d + 1) Q 6 [lR v, lI x1, lI x2, lI x3] [] M := by
  refine aw_iload_n dX8_tallestOne_6 rfl rfl ?_
  refine aw_aload_n dX8_tallestOne_7 rfl rfl ?_
  refine aw_getf dX8_tallestOne_8 fl_X8_53 (kV0 h_v) (cV0 h_v) rfl (v := .int (M v 7)) rfl ?_
  refine aw_icmp_ge (tgt := 48) dX8_tallestOne_11 (by decide) (fun z => ?_) (fun z => ?_)
  · replace h := h.1 z
    refine aw_iload_n dX8_tallestOne_48 rfl rfl ?_
    exact aw_iret dX8_tallestOne_49 rfl rfl h
  · replace h := h.2 z
    refine aw_aload_n dX8_tallestOne_14 rfl rfl ?_
    refine aw_getf dX8_tallestOne_15 fl_X8_56 (kV0 h_v) (cV0 h_v) rfl (v := .int (M v 8)) rfl ?_
    refine aw_iload_n dX8_tallestOne_18 rfl rfl ?_
    refine aw_callN (mi := iX9_has) (av := [.int (M v 8), .int x3]) (st := []) dX8_tallestOne_19 (host := "TallerWitness") (by decide) kX9_has rfl rfl (Nat.le_of_ble_eq_true rfl) (AM.mono (p_X9_has _ _) (fun r9 M9 e9 => ?_))
    obtain ⟨rfl, rfl⟩ := e9
    refine aw_if_eq (tgt := 42) dX8_tallestOne_22 (by decide) (fun z => ?_) (fun z => ?_)
    · replace h := h.1 z
      refine aw_iinc (y := 1) (L2 := [lR v, lI x1, lI x2, lI (x3 + 1)]) dX8_tallestOne_42 rfl (by decide) (by decide) rfl ?_
      refine aw_goto (tgt := 6) dX8_tallestOne_45 (by decide) ?_
      exact h
    · replace h := h.2 z
      refine aw_aload_n dX8_tallestOne_25 rfl rfl ?_
      refine aw_iload_n dX8_tallestOne_26 rfl rfl ?_
      refine aw_callV (mi := iX8_heightOf) (av := [.int x3]) (st := []) dX8_tallestOne_27 ml_X8_73 kX8_heightOf (kV0 h_v) (cV0 h_v) clX8 rfl rfl rfl (Nat.le_of_ble_eq_true rfl) (AM.mono h (fun r9 M1 h => ?_))
      obtain ⟨r1, rfl, h⟩ := h
      refine aw_iload_n dX8_tallestOne_30 rfl rfl ?_
      refine aw_icmp_le (tgt := 42) dX8_tallestOne_31 (by decide) (fun z => ?_) (fun z => ?_)
      · replace h := h.1 z
        refine aw_iinc (y := 1) (L2 := [lR v, lI x1, lI x2, lI (x3 + 1)]) dX8_tallestOne_42 rfl (by decide) (by decide) rfl ?_
        refine aw_goto (tgt := 6) dX8_tallestOne_45 (by decide) ?_
        exact h
      · replace h := h.2 z
        refine aw_iload_n dX8_tallestOne_34 rfl rfl ?_
        refine aw_istore_n (L2 := [lR v, lI x3, lI x2, lI x3]) dX8_tallestOne_35 rfl (by decide) rfl ?_
        refine aw_aload_n dX8_tallestOne_36 rfl rfl ?_
        refine aw_iload_n dX8_tallestOne_37 rfl rfl ?_
        refine aw_callV (mi := iX8_heightOf) (av := [.int x3]) (st := []) dX8_tallestOne_38 ml_X8_73 kX8_heightOf (kV0 h_v) (cV0 h_v) clX8 rfl rfl rfl (Nat.le_of_ble_eq_true rfl) (AM.mono h (fun r9 M2 h => ?_))
        obtain ⟨r2, rfl, h⟩ := h
        refine aw_istore_n (L2 := [lR v, lI x3, lI r2, lI x3]) dX8_tallestOne_41 rfl (by decide) rfl ?_
        refine aw_iinc (y := 1) (L2 := [lR v, lI x3, lI r2, lI (x3 + 1)]) dX8_tallestOne_42 rfl (by decide) (by decide) rfl ?_
        refine aw_goto (tgt := 6) dX8_tallestOne_45 (by decide) ?_
        exact h
abbrev AX8_nextDraw (d : Nat) (Q : Option Int32 → Mem → Prop) (pc : Nat) (L : List (Option Value)) (st : List Value) (M : Mem) : Prop := AW none RX8 cX8_nextDraw 1 (some .int) d Q pc L st M
theorem eX8_nextDraw {d : Nat} {Q : Option Int32 → Mem → Prop} {v : Nat} (M : Mem) (h : AX8_nextDraw d Q 0 [lR v] [] M) : AM d iX8_nextDraw [.ref v] M Q := AM.of2 (by decide) rfl rfl h
theorem bX8_nextDraw_0 {d : Nat} {Q : Option Int32 → Mem → Prop} {v : Nat} (h_v : isV v) (M : Mem) (h : Q (some (((wr M v 11 (((25173 * (M v 11)) + 13849) &&& 65535)) v 11) - ((wr M v 11 (((25173 * (M v 11)) + 13849) &&& 65535)) v 11) / 10 * 10)) (wr M v 11 (((25173 * (M v 11)) + 13849) &&& 65535))) : AX8_nextDraw d Q 0 [lR v] [] M := by
  refine aw_aload_n dX8_nextDraw_0 rfl rfl ?_
  refine aw_sipush (v := 25173) dX8_nextDraw_1 (by decide) ?_
  refine aw_aload_n dX8_nextDraw_4 rfl rfl ?_
  refine aw_getf dX8_nextDraw_5 fl_X8_33 (kV0 h_v) (cV0 h_v) rfl (v := .int (M v 11)) rfl ?_
  refine aw_imul dX8_nextDraw_8 ?_
  refine aw_sipush (v := 13849) dX8_nextDraw_9 (by decide) ?_
  refine aw_iadd dX8_nextDraw_12 ?_
  refine aw_ldc dX8_nextDraw_13 kc_X8_77 ?_
  refine aw_iand dX8_nextDraw_15 ?_
  refine aw_putf dX8_nextDraw_16 fp_X8_33 (kV0 h_v) (cV0 h_v) rfl rfl rfl ?_
  refine aw_aload_n dX8_nextDraw_19 rfl rfl ?_
  refine aw_getf dX8_nextDraw_20 fl_X8_33 (kV0 h_v) (cV0 h_v) rfl (v := .int ((wr M v 11 (((25173 * (M v 11)) + 13849) &&& 65535)) v 11)) rfl ?_
  refine aw_bipush (v := 10) dX8_nextDraw_23 (by decide) ?_
  refine aw_irem dX8_nextDraw_25 (by decide) ?_
  exact aw_iret dX8_nextDraw_26 rfl rfl h
abbrev AX8_growOlder (d : Nat) (Q : Option Int32 → Mem → Prop) (pc : Nat) (L : List (Option Value)) (st : List Value) (M : Mem) : Prop := AW none RX8 cX8_growOlder 2 none d Q pc L st M
theorem eX8_growOlder {d : Nat} {Q : Option Int32 → Mem → Prop} {v : Nat} (M : Mem) (h : AX8_growOlder d Q 0 [lR v, none] [] M) : AM d iX8_growOlder [.ref v] M Q := AM.of2 (by decide) rfl rfl h
theorem bX8_growOlder_0 {d : Nat} {Q : Option Int32 → Mem → Prop} {v : Nat} (h_v : isV v) (M : Mem) (h : AX8_growOlder (d + 1) Q 2 [lR v, lI 0] [] M) : AX8_growOlder (d + 1) Q 0 [lR v, none] [] M := by
  refine aw_iconst (v := 0) dX8_growOlder_0 (by decide) ?_
  refine aw_istore_n (L2 := [lR v, lI 0]) dX8_growOlder_1 rfl (by decide) rfl ?_
  exact h
theorem bX8_growOlder_2 {d : Nat} {Q : Option Int32 → Mem → Prop} {v : Nat} (h_v : isV v) (M : Mem) (x1 : Int32) (h : ((M v 7) ≤ x1 → Q none M) ∧ (¬ (M v 7) ≤ x1 → ((hasV (M v 8) x1) = 0 → AX8_growOlder (d + 1) Q 2 [lR v, lI (x1 + 1)] [] M) ∧ (¬ (hasV (M v 8) x1) = 0 → (vp_in x1 16) ∧ ((vp_in x1 16) ∧ (AX8_growOlder (d + 1) Q 2 [lR v, lI (x1 + 1)] [] (wr M (v + 3) (ix x1) (if 99 < ((M (v + 3) (ix x1)) + 1) then 99 else ((M (v + 3) (ix x1)) + 1)))))))) : AX8_growOlder (d + 1) Q 2 [lR v, lI x1] [] M := by
  refine aw_iload_n dX8_growOlder_2 rfl rfl ?_
  refine aw_aload_n dX8_growOlder_3 rfl rfl ?_
  refine aw_getf dX8_growOlder_4 fl_X8_53 (kV0 h_v) (cV0 h_v) rfl (v := .int (M v 7)) rfl ?_
  refine aw_icmp_ge (tgt := 46) dX8_growOlder_7 (by decide) (fun z => ?_) (fun z => ?_)
  · replace h := h.1 z
    exact aw_vret dX8_growOlder_46 rfl h
  · replace h := h.2 z
    refine aw_aload_n dX8_growOlder_10 rfl rfl ?_
    refine aw_getf dX8_growOlder_11 fl_X8_56 (kV0 h_v) (cV0 h_v) rfl (v := .int (M v 8)) rfl ?_
    refine aw_iload_n dX8_growOlder_14 rfl rfl ?_
    refine aw_callN (mi := iX9_has) (av := [.int (M v 8), .int x1]) (st := []) dX8_growOlder_15 (host := "TallerWitness") (by decide) kX9_has rfl rfl (Nat.le_of_ble_eq_true rfl) (AM.mono (p_X9_has _ _) (fun r9 M9 e9 => ?_))
    obtain ⟨rfl, rfl⟩ := e9
    refine aw_if_eq (tgt := 40) dX8_growOlder_18 (by decide) (fun z => ?_) (fun z => ?_)
    · replace h := h.1 z
      refine aw_iinc (y := 1) (L2 := [lR v, lI (x1 + 1)]) dX8_growOlder_40 rfl (by decide) (by decide) rfl ?_
      refine aw_goto (tgt := 2) dX8_growOlder_43 (by decide) ?_
      exact h
    · replace h := h.2 z
      refine aw_aload_n dX8_growOlder_21 rfl rfl ?_
      refine aw_getf dX8_growOlder_22 fl_X8_18 (kV0 h_v) (cV0 h_v) rfl (v := .ref (v + 3)) rfl ?_
      refine aw_iload_n dX8_growOlder_25 rfl rfl ?_
      refine aw_aload_n dX8_growOlder_26 rfl rfl ?_
      refine aw_getf dX8_growOlder_27 fl_X8_18 (kV0 h_v) (cV0 h_v) rfl (v := .ref (v + 3)) rfl ?_
      refine aw_iload_n dX8_growOlder_30 rfl rfl ?_
      obtain ⟨h9, h⟩ := h
      refine aw_iald dX8_growOlder_31 (kV3 h_v) (cV3 h_v) h9 ?_
      refine aw_iconst (v := 1) dX8_growOlder_32 (by decide) ?_
      refine aw_iadd dX8_growOlder_33 ?_
      refine aw_bipush (v := 99) dX8_growOlder_34 (by decide) ?_
      refine aw_mmin dX8_growOlder_36 ml_X8_93 mm_min_s mm_i mm_min_c (Nat.le_of_ble_eq_true rfl) ?_
      obtain ⟨h9, h⟩ := h
      refine aw_iast dX8_growOlder_39 (kV3 h_v) (cV3 h_v) h9 ?_
      refine aw_iinc (y := 1) (L2 := [lR v, lI (x1 + 1)]) dX8_growOlder_40 rfl (by decide) (by decide) rfl ?_
      refine aw_goto (tgt := 2) dX8_growOlder_43 (by decide) ?_
      exact h
abbrev AX8_growTaller (d : Nat) (Q : Option Int32 → Mem → Prop) (pc : Nat) (L : List (Option Value)) (st : List Value) (M : Mem) : Prop := AW none RX8 cX8_growTaller 4 none d Q pc L st M
theorem eX8_growTaller {d : Nat} {Q : Option Int32 → Mem → Prop} {v : Nat} {la : Nat} (M : Mem) (h : AX8_growTaller d Q 0 [lR v, lR la, none, none] [] M) : AM d iX8_growTaller [.ref v, .ref la] M Q := AM.of2 (by decide) rfl rfl h
theorem bX8_growTaller_0 {d : Nat} {Q : Option Int32 → Mem → Prop} {v : Nat} (h_v : isV v) {la : Nat} (h_la : isA la) (M : Mem) (h : AX8_growTaller (d + 1) Q 2 [lR v, lR la, lI 0, none] [] M) : AX8_growTaller (d + 1) Q 0 [lR v, lR la, none, none] [] M := by
  refine aw_iconst (v := 0) dX8_growTaller_0 (by decide) ?_
  refine aw_istore_n (L2 := [lR v, lR la, lI 0, none]) dX8_growTaller_1 rfl (by decide) rfl ?_
  exact h
theorem bX8_growTaller_2 {d : Nat} {Q : Option Int32 → Mem → Prop} {v : Nat} (h_v : isV v) {la : Nat} (h_la : isA la) (M : Mem) (x2 : Int32) (h : ((M v 7) ≤ x2 → AX8_growTaller (d + 1) Q 95 [lR v, none, lI 0, none] [] M) ∧ (¬ (M v 7) ≤ x2 → (vp_in x2 16) ∧ (((hasV ((wr M (v + 8) (ix x2) 0) v 8) x2) = 0 → AX8_growTaller (d + 1) Q 2 [lR v, lR la, lI (x2 + 1), none] [] (wr M (v + 8) (ix x2) 0)) ∧ (¬ (hasV ((wr M (v + 8) (ix x2) 0) v 8) x2) = 0 → AMv d iX4_tellSwearer [.ref (v + 9), .ref v, .int x2] (wr M (v + 8) (ix x2) 0) (fun M1 => (vp_in x2 16) ∧ ((¬ (M1 (v + 1) (ix x2)) = 2 → AX8_growTaller (d + 1) Q 62 [lR v, lR la, lI x2, none] [] M1) ∧ ((M1 (v + 1) (ix x2)) = 2 → (vp_in x2 16) ∧ ((20 ≤ (M1 (v + 3) (ix x2)) → AX8_growTaller (d + 1) Q 62 [lR v, lR la, lI x2, none] [] M1) ∧ (¬ 20 ≤ (M1 (v + 3) (ix x2)) → AX8_growTaller (d + 1) Q 63 [lR v, lR la, lI x2, none] [.int 1] M1))))))))) : AX8_growTaller (d + 1) Q 2 [lR v, lR la, lI x2, none] [] M := by
  refine aw_iload_n dX8_growTaller_2 rfl rfl ?_
  refine aw_aload_n dX8_growTaller_3 rfl rfl ?_
  refine aw_getf dX8_growTaller_4 fl_X8_53 (kV0 h_v) (cV0 h_v) rfl (v := .int (M v 7)) rfl ?_
  refine aw_icmp_ge (tgt := 93) dX8_growTaller_7 (by decide) (fun z => ?_) (fun z => ?_)
  · replace h := h.1 z
    refine aw_iconst (v := 0) dX8_growTaller_93 (by decide) ?_
    refine aw_istore_n (L2 := [lR v, lR la, lI 0, none]) dX8_growTaller_94 rfl (by decide) rfl ?_
    exact aw_less (less_k (less_d (less_k (less_k less_nil)))) h
  · replace h := h.2 z
    refine aw_aload_n dX8_growTaller_10 rfl rfl ?_
    refine aw_getf dX8_growTaller_11 fl_X8_37 (kV0 h_v) (cV0 h_v) rfl (v := .ref (v + 8)) rfl ?_
    refine aw_iload_n dX8_growTaller_14 rfl rfl ?_
    refine aw_iconst (v := 0) dX8_growTaller_15 (by decide) ?_
    obtain ⟨h9, h⟩ := h
    refine aw_iast dX8_growTaller_16 (kV8 h_v) (cV8 h_v) h9 ?_
    refine aw_aload_n dX8_growTaller_17 rfl rfl ?_
    refine aw_getf dX8_growTaller_18 fl_X8_56 (kV0 h_v) (cV0 h_v) rfl (v := .int ((wr M (v + 8) (ix x2) 0) v 8)) rfl ?_
    refine aw_iload_n dX8_growTaller_21 rfl rfl ?_
    refine aw_callN (mi := iX9_has) (av := [.int ((wr M (v + 8) (ix x2) 0) v 8), .int x2]) (st := []) dX8_growTaller_22 (host := "TallerWitness") (by decide) kX9_has rfl rfl (Nat.le_of_ble_eq_true rfl) (AM.mono (p_X9_has _ _) (fun r9 M9 e9 => ?_))
    obtain ⟨rfl, rfl⟩ := e9
    refine aw_if_eq (tgt := 87) dX8_growTaller_25 (by decide) (fun z => ?_) (fun z => ?_)
    · replace h := h.1 z
      refine aw_iinc (y := 1) (L2 := [lR v, lR la, lI (x2 + 1), none]) dX8_growTaller_87 rfl (by decide) (by decide) rfl ?_
      refine aw_goto (tgt := 2) dX8_growTaller_90 (by decide) ?_
      exact h
    · replace h := h.2 z
      refine aw_aload_n dX8_growTaller_28 rfl rfl ?_
      refine aw_getf dX8_growTaller_29 fl_X8_43 (kV0 h_v) (cV0 h_v) rfl (v := .ref (v + 9)) rfl ?_
      refine aw_aload_n dX8_growTaller_32 rfl rfl ?_
      refine aw_iload_n dX8_growTaller_33 rfl rfl ?_
      refine aw_callV (mi := iX4_tellSwearer) (av := [.ref v, .int x2]) (st := []) dX8_growTaller_34 ml_X8_104 kX4_tellSwearer (kV9 h_v) (cV9 h_v) clX4 rfl rfl rfl (Nat.le_of_ble_eq_true rfl) (AM.mono h (fun r9 M1 h => ?_))
      obtain ⟨rfl, h⟩ := h
      refine aw_aload_n dX8_growTaller_37 rfl rfl ?_
      refine aw_getf dX8_growTaller_38 fl_X8_9 (kV0 h_v) (cV0 h_v) rfl (v := .ref (v + 1)) rfl ?_
      refine aw_iload_n dX8_growTaller_41 rfl rfl ?_
      obtain ⟨h9, h⟩ := h
      refine aw_iald dX8_growTaller_42 (kV1 h_v) (cV1 h_v) h9 ?_
      refine aw_iconst (v := 2) dX8_growTaller_43 (by decide) ?_
      refine aw_icmp_ne (tgt := 62) dX8_growTaller_44 (by decide) (fun z => ?_) (fun z => ?_)
      · replace h := h.1 z
        exact h
      · replace h := h.2 z
        refine aw_aload_n dX8_growTaller_47 rfl rfl ?_
        refine aw_getf dX8_growTaller_48 fl_X8_18 (kV0 h_v) (cV0 h_v) rfl (v := .ref (v + 3)) rfl ?_
        refine aw_iload_n dX8_growTaller_51 rfl rfl ?_
        obtain ⟨h9, h⟩ := h
        refine aw_iald dX8_growTaller_52 (kV3 h_v) (cV3 h_v) h9 ?_
        refine aw_bipush (v := 20) dX8_growTaller_53 (by decide) ?_
        refine aw_icmp_ge (tgt := 62) dX8_growTaller_55 (by decide) (fun z => ?_) (fun z => ?_)
        · replace h := h.1 z
          exact h
        · replace h := h.2 z
          refine aw_iconst (v := 1) dX8_growTaller_58 (by decide) ?_
          refine aw_goto (tgt := 63) dX8_growTaller_59 (by decide) ?_
          exact h
theorem bX8_growTaller_62 {d : Nat} {Q : Option Int32 → Mem → Prop} {v : Nat} (h_v : isV v) {la : Nat} (h_la : isA la) (M : Mem) (x2 : Int32) (h : AX8_growTaller (d + 1) Q 63 [lR v, lR la, lI x2, none] [.int 0] M) : AX8_growTaller (d + 1) Q 62 [lR v, lR la, lI x2, none] [] M := by
  refine aw_iconst (v := 0) dX8_growTaller_62 (by decide) ?_
  exact h
theorem bX8_growTaller_63 {d : Nat} {Q : Option Int32 → Mem → Prop} {v : Nat} (h_v : isV v) {la : Nat} (h_la : isA la) (M : Mem) (x2 s0 : Int32) (h : AMi d iX2_firstWorth [.ref la, .int 103, .int 9, .ref (v + 10)] M (fun r1 M1 => (vp_in x2 16) ∧ (AX8_growTaller (d + 1) Q 2 [lR v, lR la, lI (x2 + 1), none] [] (wr M1 (v + 8) (ix x2) (r1 + s0))))) : AX8_growTaller (d + 1) Q 63 [lR v, lR la, lI x2, none] [.int s0] M := by
  refine aw_istore_n (L2 := [lR v, lR la, lI x2, lI s0]) dX8_growTaller_63 rfl (by decide) rfl ?_
  refine aw_aload_n dX8_growTaller_64 rfl rfl ?_
  refine aw_getf dX8_growTaller_65 fl_X8_37 (kV0 h_v) (cV0 h_v) rfl (v := .ref (v + 8)) rfl ?_
  refine aw_iload_n dX8_growTaller_68 rfl rfl ?_
  refine aw_aload_n dX8_growTaller_69 rfl rfl ?_
  refine aw_bipush (v := 103) dX8_growTaller_70 (by decide) ?_
  refine aw_bipush (v := 9) dX8_growTaller_72 (by decide) ?_
  refine aw_aload_n dX8_growTaller_74 rfl rfl ?_
  refine aw_getf dX8_growTaller_75 fl_X8_43 (kV0 h_v) (cV0 h_v) rfl (v := .ref (v + 9)) rfl ?_
  refine aw_getf dX8_growTaller_78 fl_X8_108 (kV9 h_v) (cV9 h_v) rfl (v := .ref (v + 10)) rfl ?_
  refine aw_callV (mi := iX2_firstWorth) (av := [.int 103, .int 9, .ref (v + 10)]) (st := [.int x2, .ref (v + 8)]) dX8_growTaller_81 ml_X8_111 kX2_firstWorth (kA0 h_la) (cA0 h_la) clX2 rfl rfl rfl (Nat.le_of_ble_eq_true rfl) (AM.mono h (fun r9 M1 h => ?_))
  obtain ⟨r1, rfl, h⟩ := h
  refine aw_iload_n dX8_growTaller_84 rfl rfl ?_
  refine aw_iadd dX8_growTaller_85 ?_
  obtain ⟨h9, h⟩ := h
  refine aw_iast dX8_growTaller_86 (kV8 h_v) (cV8 h_v) h9 ?_
  refine aw_iinc (y := 1) (L2 := [lR v, lR la, lI (x2 + 1), lI s0]) dX8_growTaller_87 rfl (by decide) (by decide) rfl ?_
  refine aw_goto (tgt := 2) dX8_growTaller_90 (by decide) ?_
  exact aw_less (less_k (less_k (less_k (less_d less_nil)))) h
theorem bX8_growTaller_95 {d : Nat} {Q : Option Int32 → Mem → Prop} {v : Nat} (h_v : isV v) (M : Mem) (x2 : Int32) (h : ((M v 7) ≤ x2 → Q none M) ∧ (¬ (M v 7) ≤ x2 → (vp_in x2 16) ∧ ((vp_in x2 16) ∧ ((vp_in x2 16) ∧ (AX8_growTaller (d + 1) Q 95 [lR v, none, lI (x2 + 1), none] [] (wr M (v + 2) (ix x2) (if 99 < ((M (v + 2) (ix x2)) + (M (v + 8) (ix x2))) then 99 else ((M (v + 2) (ix x2)) + (M (v + 8) (ix x2)))))))))) : AX8_growTaller (d + 1) Q 95 [lR v, none, lI x2, none] [] M := by
  refine aw_iload_n dX8_growTaller_95 rfl rfl ?_
  refine aw_aload_n dX8_growTaller_96 rfl rfl ?_
  refine aw_getf dX8_growTaller_97 fl_X8_53 (kV0 h_v) (cV0 h_v) rfl (v := .int (M v 7)) rfl ?_
  refine aw_icmp_ge (tgt := 133) dX8_growTaller_100 (by decide) (fun z => ?_) (fun z => ?_)
  · replace h := h.1 z
    exact aw_vret dX8_growTaller_133 rfl h
  · replace h := h.2 z
    refine aw_aload_n dX8_growTaller_103 rfl rfl ?_
    refine aw_getf dX8_growTaller_104 fl_X8_15 (kV0 h_v) (cV0 h_v) rfl (v := .ref (v + 2)) rfl ?_
    refine aw_iload_n dX8_growTaller_107 rfl rfl ?_
    refine aw_aload_n dX8_growTaller_108 rfl rfl ?_
    refine aw_getf dX8_growTaller_109 fl_X8_15 (kV0 h_v) (cV0 h_v) rfl (v := .ref (v + 2)) rfl ?_
    refine aw_iload_n dX8_growTaller_112 rfl rfl ?_
    obtain ⟨h9, h⟩ := h
    refine aw_iald dX8_growTaller_113 (kV2 h_v) (cV2 h_v) h9 ?_
    refine aw_aload_n dX8_growTaller_114 rfl rfl ?_
    refine aw_getf dX8_growTaller_115 fl_X8_37 (kV0 h_v) (cV0 h_v) rfl (v := .ref (v + 8)) rfl ?_
    refine aw_iload_n dX8_growTaller_118 rfl rfl ?_
    obtain ⟨h9, h⟩ := h
    refine aw_iald dX8_growTaller_119 (kV8 h_v) (cV8 h_v) h9 ?_
    refine aw_iadd dX8_growTaller_120 ?_
    refine aw_bipush (v := 99) dX8_growTaller_121 (by decide) ?_
    refine aw_mmin dX8_growTaller_123 ml_X8_93 mm_min_s mm_i mm_min_c (Nat.le_of_ble_eq_true rfl) ?_
    obtain ⟨h9, h⟩ := h
    refine aw_iast dX8_growTaller_126 (kV2 h_v) (cV2 h_v) h9 ?_
    refine aw_iinc (y := 1) (L2 := [lR v, none, lI (x2 + 1), none]) dX8_growTaller_127 rfl (by decide) (by decide) rfl ?_
    refine aw_goto (tgt := 95) dX8_growTaller_130 (by decide) ?_
    exact h
abbrev AX8_whoDies (d : Nat) (Q : Option Int32 → Mem → Prop) (pc : Nat) (L : List (Option Value)) (st : List Value) (M : Mem) : Prop := AW none RX8 cX8_whoDies 4 (some .int) d Q pc L st M
theorem eX8_whoDies {d : Nat} {Q : Option Int32 → Mem → Prop} {v : Nat} {la : Nat} (M : Mem) (h : AX8_whoDies d Q 0 [lR v, lR la, none, none] [] M) : AM d iX8_whoDies [.ref v, .ref la] M Q := AM.of2 (by decide) rfl rfl h
theorem bX8_whoDies_0 {d : Nat} {Q : Option Int32 → Mem → Prop} {v : Nat} (h_v : isV v) {la : Nat} (h_la : isA la) (M : Mem) (h : AX8_whoDies (d + 1) Q 4 [lR v, lR la, lI 0, lI 0] [] M) : AX8_whoDies (d + 1) Q 0 [lR v, lR la, none, none] [] M := by
  refine aw_iconst (v := 0) dX8_whoDies_0 (by decide) ?_
  refine aw_istore_n (L2 := [lR v, lR la, lI 0, none]) dX8_whoDies_1 rfl (by decide) rfl ?_
  refine aw_iconst (v := 0) dX8_whoDies_2 (by decide) ?_
  refine aw_istore_n (L2 := [lR v, lR la, lI 0, lI 0]) dX8_whoDies_3 rfl (by decide) rfl ?_
  exact h
theorem bX8_whoDies_4 {d : Nat} {Q : Option Int32 → Mem → Prop} {v : Nat} (h_v : isV v) {la : Nat} (h_la : isA la) (M : Mem) (x2 x3 : Int32) (h : ((M v 7) ≤ x3 → Q (some x2) M) ∧ (¬ (M v 7) ≤ x3 → ((hasV (M v 8) x3) = 0 → AX8_whoDies (d + 1) Q 4 [lR v, lR la, lI x2, lI (x3 + 1)] [] M) ∧ (¬ (hasV (M v 8) x3) = 0 → AMv d iX4_tellSwearer [.ref (v + 9), .ref v, .int x3] M (fun M1 => AMi d iX2_anyHolds [.ref la, .int 120, .ref (v + 10)] M1 (fun r2 M2 => (r2 = 0 → AX8_whoDies (d + 1) Q 4 [lR v, lR la, lI x2, lI (x3 + 1)] [] M2) ∧ (¬ r2 = 0 → AX8_whoDies (d + 1) Q 4 [lR v, lR la, lI (x2 ||| ((1 : Int32) <<< (x3 &&& 31))), lI (x3 + 1)] [] M2)))))) : AX8_whoDies (d + 1) Q 4 [lR v, lR la, lI x2, lI x3] [] M := by
  refine aw_iload_n dX8_whoDies_4 rfl rfl ?_
  refine aw_aload_n dX8_whoDies_5 rfl rfl ?_
  refine aw_getf dX8_whoDies_6 fl_X8_53 (kV0 h_v) (cV0 h_v) rfl (v := .int (M v 7)) rfl ?_
  refine aw_icmp_ge (tgt := 60) dX8_whoDies_9 (by decide) (fun z => ?_) (fun z => ?_)
  · replace h := h.1 z
    refine aw_iload_n dX8_whoDies_60 rfl rfl ?_
    exact aw_iret dX8_whoDies_61 rfl rfl h
  · replace h := h.2 z
    refine aw_aload_n dX8_whoDies_12 rfl rfl ?_
    refine aw_getf dX8_whoDies_13 fl_X8_56 (kV0 h_v) (cV0 h_v) rfl (v := .int (M v 8)) rfl ?_
    refine aw_iload_n dX8_whoDies_16 rfl rfl ?_
    refine aw_callN (mi := iX9_has) (av := [.int (M v 8), .int x3]) (st := []) dX8_whoDies_17 (host := "TallerWitness") (by decide) kX9_has rfl rfl (Nat.le_of_ble_eq_true rfl) (AM.mono (p_X9_has _ _) (fun r9 M9 e9 => ?_))
    obtain ⟨rfl, rfl⟩ := e9
    refine aw_if_eq (tgt := 54) dX8_whoDies_20 (by decide) (fun z => ?_) (fun z => ?_)
    · replace h := h.1 z
      refine aw_iinc (y := 1) (L2 := [lR v, lR la, lI x2, lI (x3 + 1)]) dX8_whoDies_54 rfl (by decide) (by decide) rfl ?_
      refine aw_goto (tgt := 4) dX8_whoDies_57 (by decide) ?_
      exact h
    · replace h := h.2 z
      refine aw_aload_n dX8_whoDies_23 rfl rfl ?_
      refine aw_getf dX8_whoDies_24 fl_X8_43 (kV0 h_v) (cV0 h_v) rfl (v := .ref (v + 9)) rfl ?_
      refine aw_aload_n dX8_whoDies_27 rfl rfl ?_
      refine aw_iload_n dX8_whoDies_28 rfl rfl ?_
      refine aw_callV (mi := iX4_tellSwearer) (av := [.ref v, .int x3]) (st := []) dX8_whoDies_29 ml_X8_104 kX4_tellSwearer (kV9 h_v) (cV9 h_v) clX4 rfl rfl rfl (Nat.le_of_ble_eq_true rfl) (AM.mono h (fun r9 M1 h => ?_))
      obtain ⟨rfl, h⟩ := h
      refine aw_aload_n dX8_whoDies_32 rfl rfl ?_
      refine aw_bipush (v := 120) dX8_whoDies_33 (by decide) ?_
      refine aw_aload_n dX8_whoDies_35 rfl rfl ?_
      refine aw_getf dX8_whoDies_36 fl_X8_43 (kV0 h_v) (cV0 h_v) rfl (v := .ref (v + 9)) rfl ?_
      refine aw_getf dX8_whoDies_39 fl_X8_108 (kV9 h_v) (cV9 h_v) rfl (v := .ref (v + 10)) rfl ?_
      refine aw_callV (mi := iX2_anyHolds) (av := [.int 120, .ref (v + 10)]) (st := []) dX8_whoDies_42 ml_X8_117 kX2_anyHolds (kA0 h_la) (cA0 h_la) clX2 rfl rfl rfl (Nat.le_of_ble_eq_true rfl) (AM.mono h (fun r9 M2 h => ?_))
      obtain ⟨r2, rfl, h⟩ := h
      refine aw_if_eq (tgt := 54) dX8_whoDies_45 (by decide) (fun z => ?_) (fun z => ?_)
      · replace h := h.1 z
        refine aw_iinc (y := 1) (L2 := [lR v, lR la, lI x2, lI (x3 + 1)]) dX8_whoDies_54 rfl (by decide) (by decide) rfl ?_
        refine aw_goto (tgt := 4) dX8_whoDies_57 (by decide) ?_
        exact h
      · replace h := h.2 z
        refine aw_iload_n dX8_whoDies_48 rfl rfl ?_
        refine aw_iconst (v := 1) dX8_whoDies_49 (by decide) ?_
        refine aw_iload_n dX8_whoDies_50 rfl rfl ?_
        refine aw_ishl dX8_whoDies_51 ?_
        refine aw_ior dX8_whoDies_52 ?_
        refine aw_istore_n (L2 := [lR v, lR la, lI (x2 ||| ((1 : Int32) <<< (x3 &&& 31))), lI x3]) dX8_whoDies_53 rfl (by decide) rfl ?_
        refine aw_iinc (y := 1) (L2 := [lR v, lR la, lI (x2 ||| ((1 : Int32) <<< (x3 &&& 31))), lI (x3 + 1)]) dX8_whoDies_54 rfl (by decide) (by decide) rfl ?_
        refine aw_goto (tgt := 4) dX8_whoDies_57 (by decide) ?_
        exact h
abbrev AX8_passYear (d : Nat) (Q : Option Int32 → Mem → Prop) (pc : Nat) (L : List (Option Value)) (st : List Value) (M : Mem) : Prop := AW none RX8 cX8_passYear 4 (some .int) d Q pc L st M
theorem eX8_passYear {d : Nat} {Q : Option Int32 → Mem → Prop} {v : Nat} {la : Nat} (M : Mem) (x2 : Int32) (h : AX8_passYear d Q 0 [lR v, lR la, lI x2, none] [] M) : AM d iX8_passYear [.ref v, .ref la, .int x2] M Q := AM.of2 (by decide) rfl rfl h
theorem bX8_passYear_0 {d : Nat} {Q : Option Int32 → Mem → Prop} {v : Nat} (h_v : isV v) {la : Nat} (h_la : isA la) (M : Mem) (x2 : Int32) (h : AMv d iX4_tellTime [.ref (v + 9), .int (M v 10), .int x2] M (fun M1 => AMv d iX8_growOlder [.ref v] M1 (fun M2 => AMv d iX8_growTaller [.ref v, .ref la] M2 (fun M3 => AMi d iX8_whoDies [.ref v, .ref la] M3 (fun r4 M4 => Q (some (bcV r4)) (wr (wr M4 v 8 ((M4 v 8) &&& (r4 ^^^ (-1)))) v 10 (if 999 < (((wr M4 v 8 ((M4 v 8) &&& (r4 ^^^ (-1)))) v 10) + 1) then 999 else (((wr M4 v 8 ((M4 v 8) &&& (r4 ^^^ (-1)))) v 10) + 1)))))))) : AX8_passYear (d + 1) Q 0 [lR v, lR la, lI x2, none] [] M := by
  refine aw_aload_n dX8_passYear_0 rfl rfl ?_
  refine aw_getf dX8_passYear_1 fl_X8_43 (kV0 h_v) (cV0 h_v) rfl (v := .ref (v + 9)) rfl ?_
  refine aw_aload_n dX8_passYear_4 rfl rfl ?_
  refine aw_getf dX8_passYear_5 fl_X8_62 (kV0 h_v) (cV0 h_v) rfl (v := .int (M v 10)) rfl ?_
  refine aw_iload_n dX8_passYear_8 rfl rfl ?_
  refine aw_callV (mi := iX4_tellTime) (av := [.int (M v 10), .int x2]) (st := []) dX8_passYear_9 ml_X8_78 kX4_tellTime (kV9 h_v) (cV9 h_v) clX4 rfl rfl rfl (Nat.le_of_ble_eq_true rfl) (AM.mono h (fun r9 M1 h => ?_))
  obtain ⟨rfl, h⟩ := h
  refine aw_aload_n dX8_passYear_12 rfl rfl ?_
  refine aw_callV (mi := iX8_growOlder) (av := []) (st := []) dX8_passYear_13 ml_X8_82 kX8_growOlder (kV0 h_v) (cV0 h_v) clX8 rfl rfl rfl (Nat.le_of_ble_eq_true rfl) (AM.mono h (fun r9 M2 h => ?_))
  obtain ⟨rfl, h⟩ := h
  refine aw_aload_n dX8_passYear_16 rfl rfl ?_
  refine aw_aload_n dX8_passYear_17 rfl rfl ?_
  refine aw_callV (mi := iX8_growTaller) (av := [.ref la]) (st := []) dX8_passYear_18 ml_X8_85 kX8_growTaller (kV0 h_v) (cV0 h_v) clX8 rfl rfl rfl (Nat.le_of_ble_eq_true rfl) (AM.mono h (fun r9 M3 h => ?_))
  obtain ⟨rfl, h⟩ := h
  refine aw_aload_n dX8_passYear_21 rfl rfl ?_
  refine aw_aload_n dX8_passYear_22 rfl rfl ?_
  refine aw_callV (mi := iX8_whoDies) (av := [.ref la]) (st := []) dX8_passYear_23 ml_X8_89 kX8_whoDies (kV0 h_v) (cV0 h_v) clX8 rfl rfl rfl (Nat.le_of_ble_eq_true rfl) (AM.mono h (fun r9 M4 h => ?_))
  obtain ⟨r4, rfl, h⟩ := h
  refine aw_istore_n (L2 := [lR v, lR la, lI x2, lI r4]) dX8_passYear_26 rfl (by decide) rfl ?_
  refine aw_aload_n dX8_passYear_27 rfl rfl ?_
  refine aw_dup dX8_passYear_28 rfl ?_
  refine aw_getf dX8_passYear_29 fl_X8_56 (kV0 h_v) (cV0 h_v) rfl (v := .int (M4 v 8)) rfl ?_
  refine aw_iload_n dX8_passYear_32 rfl rfl ?_
  refine aw_iconst (v := (-1)) dX8_passYear_33 (by decide) ?_
  refine aw_ixor dX8_passYear_34 ?_
  refine aw_iand dX8_passYear_35 ?_
  refine aw_putf dX8_passYear_36 fp_X8_56 (kV0 h_v) (cV0 h_v) rfl rfl rfl ?_
  refine aw_aload_n dX8_passYear_39 rfl rfl ?_
  refine aw_aload_n dX8_passYear_40 rfl rfl ?_
  refine aw_getf dX8_passYear_41 fl_X8_62 (kV0 h_v) (cV0 h_v) rfl (v := .int ((wr M4 v 8 ((M4 v 8) &&& (r4 ^^^ (-1)))) v 10)) rfl ?_
  refine aw_iconst (v := 1) dX8_passYear_44 (by decide) ?_
  refine aw_iadd dX8_passYear_45 ?_
  refine aw_sipush (v := 999) dX8_passYear_46 (by decide) ?_
  refine aw_mmin dX8_passYear_49 ml_X8_93 mm_min_s mm_i mm_min_c (Nat.le_of_ble_eq_true rfl) ?_
  refine aw_putf dX8_passYear_52 fp_X8_62 (kV0 h_v) (cV0 h_v) rfl rfl rfl ?_
  refine aw_iload_n dX8_passYear_55 rfl rfl ?_
  refine aw_callS (mi := iJ6_bitCount_0f7a4) (av := [.int r4]) (st := []) dX8_passYear_56 ml_X8_99 kJ6_bitCount_0f7a4 rfl rfl (Nat.le_of_ble_eq_true rfl) (AM.mono (p_J6_bitCount _) (fun r9 M9 e9 => ?_))
  obtain ⟨rfl, rfl⟩ := e9
  exact aw_iret dX8_passYear_59 rfl rfl h
abbrev AX6_leads (d : Nat) (Q : Option Int32 → Mem → Prop) (pc : Nat) (L : List (Option Value)) (st : List Value) (M : Mem) : Prop := AW none RX6 cX6_leads 3 (some .boolean) d Q pc L st M
theorem eX6_leads {d : Nat} {Q : Option Int32 → Mem → Prop} (M : Mem) (x1 x2 : Int32) (h : AX6_leads d Q 0 [lR 62, lI x1, lI x2] [] M) : AM d iX6_leads [.ref 62, .int x1, .int x2] M Q := AM.of2 (by decide) rfl rfl h
theorem bX6_leads_0 {d : Nat} {Q : Option Int32 → Mem → Prop} {sv : Nat} (h_sv : isV sv) {sa : Nat} (h_sa : isA sa) (M : Mem) (x1 x2 : Int32) (h : (vp_in x2 16) ∧ (((hasV (M 65 (ix x2)) x1) = 0 ∨ (hasV (M 65 (ix x2)) x1) = 1) ∧ Q (some (hasV (M 65 (ix x2)) x1)) M)) : AX6_leads (d + 1) Q 0 [lR 62, lI x1, lI x2] [] M := by
  refine aw_aload_n dX6_leads_0 rfl rfl ?_
  refine aw_getf dX6_leads_1 fl_X6_18 (by decide) ce_62 rfl (v := .ref 65) rfl ?_
  refine aw_iload_n dX6_leads_4 rfl rfl ?_
  obtain ⟨h9, h⟩ := h
  refine aw_iald dX6_leads_5 (by decide) ce_65 h9 ?_
  refine aw_iload_n dX6_leads_6 rfl rfl ?_
  refine aw_callN (mi := iX9_has) (av := [.int (M 65 (ix x2)), .int x1]) (st := []) dX6_leads_7 (host := "TallerWitness") (by decide) kX9_has rfl rfl (Nat.le_of_ble_eq_true rfl) (AM.mono (p_X9_has _ _) (fun r9 M9 e9 => ?_))
  obtain ⟨rfl, rfl⟩ := e9
  exact aw_iret dX6_leads_10 rfl (nar_b h.1) h.2
abbrev AX6_priceOf (d : Nat) (Q : Option Int32 → Mem → Prop) (pc : Nat) (L : List (Option Value)) (st : List Value) (M : Mem) : Prop := AW none RX6 cX6_priceOf 3 (some .int) d Q pc L st M
theorem eX6_priceOf {d : Nat} {Q : Option Int32 → Mem → Prop} (M : Mem) (x1 x2 : Int32) (h : AX6_priceOf d Q 0 [lR 62, lI x1, lI x2] [] M) : AM d iX6_priceOf [.ref 62, .int x1, .int x2] M Q := AM.of2 (by decide) rfl rfl h
theorem bX6_priceOf_0 {d : Nat} {Q : Option Int32 → Mem → Prop} {sv : Nat} (h_sv : isV sv) {sa : Nat} (h_sa : isA sa) (M : Mem) (x1 x2 : Int32) (h : (vp_in ((x1 * 16) + x2) 256) ∧ (Q (some (M 66 (ix ((x1 * 16) + x2)))) M)) : AX6_priceOf d Q 0 [lR 62, lI x1, lI x2] [] M := by
  refine aw_aload_n dX6_priceOf_0 rfl rfl ?_
  refine aw_getf dX6_priceOf_1 fl_X6_21 (by decide) ce_62 rfl (v := .ref 66) rfl ?_
  refine aw_iload_n dX6_priceOf_4 rfl rfl ?_
  refine aw_bipush (v := 16) dX6_priceOf_5 (by decide) ?_
  refine aw_imul dX6_priceOf_7 ?_
  refine aw_iload_n dX6_priceOf_8 rfl rfl ?_
  refine aw_iadd dX6_priceOf_9 ?_
  obtain ⟨h9, h⟩ := h
  refine aw_iald dX6_priceOf_10 (by decide) ce_66 h9 ?_
  exact aw_iret dX6_priceOf_11 rfl rfl h
abbrev AX6_orderUpward (d : Nat) (Q : Option Int32 → Mem → Prop) (pc : Nat) (L : List (Option Value)) (st : List Value) (M : Mem) : Prop := AW none RX6 cX6_orderUpward 4 none d Q pc L st M
theorem eX6_orderUpward {d : Nat} {Q : Option Int32 → Mem → Prop} (M : Mem) (h : AX6_orderUpward d Q 0 [lR 62, none, none, none] [] M) : AM d iX6_orderUpward [.ref 62] M Q := AM.of2 (by decide) rfl rfl h
theorem bX6_orderUpward_0 {d : Nat} {Q : Option Int32 → Mem → Prop} {sv : Nat} (h_sv : isV sv) {sa : Nat} (h_sa : isA sa) (M : Mem) (h : AX6_orderUpward (d + 2) Q 7 [lR 62, lI 0, none, none] [] (wr M 62 7 0)) : AX6_orderUpward (d + 2) Q 0 [lR 62, none, none, none] [] M := by
  refine aw_aload_n dX6_orderUpward_0 rfl rfl ?_
  refine aw_iconst (v := 0) dX6_orderUpward_1 (by decide) ?_
  refine aw_putf dX6_orderUpward_2 fp_X6_59 (by decide) ce_62 rfl rfl rfl ?_
  refine aw_iconst (v := 0) dX6_orderUpward_5 (by decide) ?_
  refine aw_istore_n (L2 := [lR 62, lI 0, none, none]) dX6_orderUpward_6 rfl (by decide) rfl ?_
  exact h
theorem bX6_orderUpward_7 {d : Nat} {Q : Option Int32 → Mem → Prop} {sv : Nat} (h_sv : isV sv) {sa : Nat} (h_sa : isA sa) (M : Mem) (x1 : Int32) (h : (ix (M 62 5) = sv) ∧ (((M sv 7) ≤ x1 → Q none M) ∧ (¬ (M sv 7) ≤ x1 → (ix (M 62 5) = sv) ∧ (AMi (d + 1) iX8_heightOf [.ref sv, .int x1] M (fun r1 M1 => (vp_in x1 16) ∧ ((ix ((wr M1 63 (ix x1) r1) 62 5) = sv) ∧ (((livV ((wr M1 63 (ix x1) r1) sv 7) ((wr M1 63 (ix x1) r1) sv 8) x1) = 0 → AX6_orderUpward (d + 2) Q 7 [lR 62, lI (x1 + 1), none, none] [] (wr M1 63 (ix x1) r1)) ∧ (¬ (livV ((wr M1 63 (ix x1) r1) sv 7) ((wr M1 63 (ix x1) r1) sv 8) x1) = 0 → AX6_orderUpward (d + 2) Q 53 [lR 62, lI x1, lI (M1 62 7), lI (M1 62 7)] [] (wr M1 63 (ix x1) r1))))))))) : AX6_orderUpward (d + 2) Q 7 [lR 62, lI x1, none, none] [] M := by
  refine aw_iload_n dX6_orderUpward_7 rfl rfl ?_
  refine aw_aload_n dX6_orderUpward_8 rfl rfl ?_
  obtain ⟨h9, h⟩ := h
  refine aw_getf dX6_orderUpward_9 fl_X6_31 (by decide) ce_62 rfl (v := .ref sv) (congrArg Value.ref h9) ?_
  refine aw_getf dX6_orderUpward_12 fl_X6_66 (kV0 h_sv) (cV0 h_sv) rfl (v := .int (M sv 7)) rfl ?_
  refine aw_icmp_ge (tgt := 126) dX6_orderUpward_15 (by decide) (fun z => ?_) (fun z => ?_)
  · replace h := h.1 z
    exact aw_vret dX6_orderUpward_126 rfl h
  · replace h := h.2 z
    refine aw_aload_n dX6_orderUpward_18 rfl rfl ?_
    refine aw_getf dX6_orderUpward_19 fl_X6_9 (by decide) ce_62 rfl (v := .ref 63) rfl ?_
    refine aw_iload_n dX6_orderUpward_22 rfl rfl ?_
    refine aw_aload_n dX6_orderUpward_23 rfl rfl ?_
    obtain ⟨h9, h⟩ := h
    refine aw_getf dX6_orderUpward_24 fl_X6_31 (by decide) ce_62 rfl (v := .ref sv) (congrArg Value.ref h9) ?_
    refine aw_iload_n dX6_orderUpward_27 rfl rfl ?_
    refine aw_callV (mi := iX8_heightOf) (av := [.int x1]) (st := [.int x1, .ref 63]) dX6_orderUpward_28 ml_X6_124 kX8_heightOf (kV0 h_sv) (cV0 h_sv) clX8 rfl rfl rfl (Nat.le_of_ble_eq_true rfl) (AM.mono h (fun r9 M1 h => ?_))
    obtain ⟨r1, rfl, h⟩ := h
    obtain ⟨h9, h⟩ := h
    refine aw_iast dX6_orderUpward_31 (by decide) ce_63 h9 ?_
    refine aw_aload_n dX6_orderUpward_32 rfl rfl ?_
    obtain ⟨h9, h⟩ := h
    refine aw_getf dX6_orderUpward_33 fl_X6_31 (by decide) ce_62 rfl (v := .ref sv) (congrArg Value.ref h9) ?_
    refine aw_iload_n dX6_orderUpward_36 rfl rfl ?_
    refine aw_callV (mi := iX8_lives) (av := [.int x1]) (st := []) dX6_orderUpward_37 ml_X6_128 kX8_lives (kV0 h_sv) (cV0 h_sv) clX8 rfl rfl rfl (Nat.le_of_ble_eq_true rfl) (AM.mono (p_X8_lives _ h_sv) (fun r9 M9 e9 => ?_))
    obtain ⟨rfl, rfl⟩ := e9
    refine aw_if_eq (tgt := 120) dX6_orderUpward_40 (by decide) (fun z => ?_) (fun z => ?_)
    · replace h := h.1 z
      refine aw_iinc (y := 1) (L2 := [lR 62, lI (x1 + 1), none, none]) dX6_orderUpward_120 rfl (by decide) (by decide) rfl ?_
      refine aw_goto (tgt := 7) dX6_orderUpward_123 (by decide) ?_
      exact h
    · replace h := h.2 z
      refine aw_aload_n dX6_orderUpward_43 rfl rfl ?_
      refine aw_getf dX6_orderUpward_44 fl_X6_59 (by decide) ce_62 rfl (v := .int (M1 62 7)) rfl ?_
      refine aw_istore_n (L2 := [lR 62, lI x1, lI (M1 62 7), none]) dX6_orderUpward_47 rfl (by decide) rfl ?_
      refine aw_aload_n dX6_orderUpward_48 rfl rfl ?_
      refine aw_getf dX6_orderUpward_49 fl_X6_59 (by decide) ce_62 rfl (v := .int (M1 62 7)) rfl ?_
      refine aw_istore_n (L2 := [lR 62, lI x1, lI (M1 62 7), lI (M1 62 7)]) dX6_orderUpward_52 rfl (by decide) rfl ?_
      exact h
theorem bX6_orderUpward_53 {d : Nat} {Q : Option Int32 → Mem → Prop} {sv : Nat} (h_sv : isV sv) {sa : Nat} (h_sa : isA sa) (M : Mem) (x1 x2 x3 : Int32) (h : (x3 ≤ 0 → AX6_orderUpward (d + 2) Q 103 [lR 62, lI x1, lI x2, none] [] M) ∧ (¬ x3 ≤ 0 → (vp_in (x3 - 1) 16) ∧ ((vp_in (M 64 (ix (x3 - 1))) 16) ∧ ((vp_in x1 16) ∧ (((M 63 (ix (M 64 (ix (x3 - 1))))) ≤ (M 63 (ix x1)) → AX6_orderUpward (d + 2) Q 103 [lR 62, lI x1, lI x2, none] [] M) ∧ (¬ (M 63 (ix (M 64 (ix (x3 - 1))))) ≤ (M 63 (ix x1)) → (vp_in (x3 - 1) 16) ∧ ((vp_in x3 16) ∧ (AX6_orderUpward (d + 2) Q 53 [lR 62, lI x1, lI (x3 - 1), lI (x3 + (-1))] [] (wr M 64 (ix x3) (M 64 (ix (x3 - 1)))))))))))) : AX6_orderUpward (d + 2) Q 53 [lR 62, lI x1, lI x2, lI x3] [] M := by
  refine aw_iload_n dX6_orderUpward_53 rfl rfl ?_
  refine aw_if_le (tgt := 103) dX6_orderUpward_54 (by decide) (fun z => ?_) (fun z => ?_)
  · replace h := h.1 z
    exact aw_less (less_k (less_k (less_k (less_d less_nil)))) h
  · replace h := h.2 z
    refine aw_aload_n dX6_orderUpward_57 rfl rfl ?_
    refine aw_getf dX6_orderUpward_58 fl_X6_9 (by decide) ce_62 rfl (v := .ref 63) rfl ?_
    refine aw_aload_n dX6_orderUpward_61 rfl rfl ?_
    refine aw_getf dX6_orderUpward_62 fl_X6_15 (by decide) ce_62 rfl (v := .ref 64) rfl ?_
    refine aw_iload_n dX6_orderUpward_65 rfl rfl ?_
    refine aw_iconst (v := 1) dX6_orderUpward_66 (by decide) ?_
    refine aw_isub dX6_orderUpward_67 ?_
    obtain ⟨h9, h⟩ := h
    refine aw_iald dX6_orderUpward_68 (by decide) ce_64 h9 ?_
    obtain ⟨h9, h⟩ := h
    refine aw_iald dX6_orderUpward_69 (by decide) ce_63 h9 ?_
    refine aw_aload_n dX6_orderUpward_70 rfl rfl ?_
    refine aw_getf dX6_orderUpward_71 fl_X6_9 (by decide) ce_62 rfl (v := .ref 63) rfl ?_
    refine aw_iload_n dX6_orderUpward_74 rfl rfl ?_
    obtain ⟨h9, h⟩ := h
    refine aw_iald dX6_orderUpward_75 (by decide) ce_63 h9 ?_
    refine aw_icmp_le (tgt := 103) dX6_orderUpward_76 (by decide) (fun z => ?_) (fun z => ?_)
    · replace h := h.1 z
      exact aw_less (less_k (less_k (less_k (less_d less_nil)))) h
    · replace h := h.2 z
      refine aw_aload_n dX6_orderUpward_79 rfl rfl ?_
      refine aw_getf dX6_orderUpward_80 fl_X6_15 (by decide) ce_62 rfl (v := .ref 64) rfl ?_
      refine aw_iload_n dX6_orderUpward_83 rfl rfl ?_
      refine aw_aload_n dX6_orderUpward_84 rfl rfl ?_
      refine aw_getf dX6_orderUpward_85 fl_X6_15 (by decide) ce_62 rfl (v := .ref 64) rfl ?_
      refine aw_iload_n dX6_orderUpward_88 rfl rfl ?_
      refine aw_iconst (v := 1) dX6_orderUpward_89 (by decide) ?_
      refine aw_isub dX6_orderUpward_90 ?_
      obtain ⟨h9, h⟩ := h
      refine aw_iald dX6_orderUpward_91 (by decide) ce_64 h9 ?_
      obtain ⟨h9, h⟩ := h
      refine aw_iast dX6_orderUpward_92 (by decide) ce_64 h9 ?_
      refine aw_iload_n dX6_orderUpward_93 rfl rfl ?_
      refine aw_iconst (v := 1) dX6_orderUpward_94 (by decide) ?_
      refine aw_isub dX6_orderUpward_95 ?_
      refine aw_istore_n (L2 := [lR 62, lI x1, lI (x3 - 1), lI x3]) dX6_orderUpward_96 rfl (by decide) rfl ?_
      refine aw_iinc (y := (-1)) (L2 := [lR 62, lI x1, lI (x3 - 1), lI (x3 + (-1))]) dX6_orderUpward_97 rfl (by decide) (by decide) rfl ?_
      refine aw_goto (tgt := 53) dX6_orderUpward_100 (by decide) ?_
      exact h
theorem bX6_orderUpward_103 {d : Nat} {Q : Option Int32 → Mem → Prop} {sv : Nat} (h_sv : isV sv) {sa : Nat} (h_sa : isA sa) (M : Mem) (x1 x2 : Int32) (h : (vp_in x2 16) ∧ (AX6_orderUpward (d + 2) Q 7 [lR 62, lI (x1 + 1), none, none] [] (wr (wr M 64 (ix x2) x1) 62 7 ((M 62 7) + 1)))) : AX6_orderUpward (d + 2) Q 103 [lR 62, lI x1, lI x2, none] [] M := by
  refine aw_aload_n dX6_orderUpward_103 rfl rfl ?_
  refine aw_getf dX6_orderUpward_104 fl_X6_15 (by decide) ce_62 rfl (v := .ref 64) rfl ?_
  refine aw_iload_n dX6_orderUpward_107 rfl rfl ?_
  refine aw_iload_n dX6_orderUpward_108 rfl rfl ?_
  obtain ⟨h9, h⟩ := h
  refine aw_iast dX6_orderUpward_109 (by decide) ce_64 h9 ?_
  refine aw_aload_n dX6_orderUpward_110 rfl rfl ?_
  refine aw_dup dX6_orderUpward_111 rfl ?_
  refine aw_getf dX6_orderUpward_112 fl_X6_59 (by decide) ce_62 rfl (v := .int (M 62 7)) rfl ?_
  refine aw_iconst (v := 1) dX6_orderUpward_115 (by decide) ?_
  refine aw_iadd dX6_orderUpward_116 ?_
  refine aw_putf dX6_orderUpward_117 fp_X6_59 (by decide) ce_62 rfl rfl rfl ?_
  refine aw_iinc (y := 1) (L2 := [lR 62, lI (x1 + 1), lI x2, none]) dX6_orderUpward_120 rfl (by decide) (by decide) rfl ?_
  refine aw_goto (tgt := 7) dX6_orderUpward_123 (by decide) ?_
  exact aw_less (less_k (less_k (less_d (less_k less_nil)))) h
abbrev AX6_isLet (d : Nat) (Q : Option Int32 → Mem → Prop) (pc : Nat) (L : List (Option Value)) (st : List Value) (M : Mem) : Prop := AW none RX6 cX6_isLet 3 (some .boolean) d Q pc L st M
theorem eX6_isLet {d : Nat} {Q : Option Int32 → Mem → Prop} (M : Mem) (x1 x2 : Int32) (h : AX6_isLet d Q 0 [lR 62, lI x1, lI x2] [] M) : AM d iX6_isLet [.ref 62, .int x1, .int x2] M Q := AM.of2 (by decide) rfl rfl h
theorem bX6_isLet_0 {d : Nat} {Q : Option Int32 → Mem → Prop} {sv : Nat} (h_sv : isV sv) {sa : Nat} (h_sa : isA sa) (M : Mem) (x1 x2 : Int32) (h : (vp_in x2 16) ∧ ((vp_in x1 16) ∧ (((M 63 (ix x2)) ≤ (M 63 (ix x1)) → Q (some 0) M) ∧ (¬ (M 63 (ix x2)) ≤ (M 63 (ix x1)) → (ix (M 62 5) = sv) ∧ ((vp_in x2 16) ∧ ((¬ (M (sv + 1) (ix x2)) = 3 → (ix (M 62 5) = sv) ∧ (AMv d iX4_tellSwearer [.ref 67, .ref sv, .int x2] M (fun M1 => (ix (M1 62 5) = sv) ∧ (AMv d iX4_tellSwornTo [.ref 67, .ref sv, .int x1] M1 (fun M2 => (ix (M2 62 6) = sa) ∧ (AMi d iX2_anyHolds [.ref sa, .int 110, .ref 68] M2 (fun r3 M3 => (¬ r3 = 0 → Q (some 0) M3) ∧ (r3 = 0 → Q (some 1) M3)))))))) ∧ ((M (sv + 1) (ix x2)) = 3 → Q (some 0) M))))))) : AX6_isLet (d + 1) Q 0 [lR 62, lI x1, lI x2] [] M := by
  refine aw_aload_n dX6_isLet_0 rfl rfl ?_
  refine aw_getf dX6_isLet_1 fl_X6_9 (by decide) ce_62 rfl (v := .ref 63) rfl ?_
  refine aw_iload_n dX6_isLet_4 rfl rfl ?_
  obtain ⟨h9, h⟩ := h
  refine aw_iald dX6_isLet_5 (by decide) ce_63 h9 ?_
  refine aw_aload_n dX6_isLet_6 rfl rfl ?_
  refine aw_getf dX6_isLet_7 fl_X6_9 (by decide) ce_62 rfl (v := .ref 63) rfl ?_
  refine aw_iload_n dX6_isLet_10 rfl rfl ?_
  obtain ⟨h9, h⟩ := h
  refine aw_iald dX6_isLet_11 (by decide) ce_63 h9 ?_
  refine aw_icmp_le (tgt := 28) dX6_isLet_12 (by decide) (fun z => ?_) (fun z => ?_)
  · replace h := h.1 z
    refine aw_iconst (v := 0) dX6_isLet_28 (by decide) ?_
    exact aw_iret dX6_isLet_29 rfl (nar_b (by decide)) h
  · replace h := h.2 z
    refine aw_aload_n dX6_isLet_15 rfl rfl ?_
    obtain ⟨h9, h⟩ := h
    refine aw_getf dX6_isLet_16 fl_X6_31 (by decide) ce_62 rfl (v := .ref sv) (congrArg Value.ref h9) ?_
    refine aw_getf dX6_isLet_19 fl_X6_86 (kV0 h_sv) (cV0 h_sv) rfl (v := .ref (sv + 1)) rfl ?_
    refine aw_iload_n dX6_isLet_22 rfl rfl ?_
    obtain ⟨h9, h⟩ := h
    refine aw_iald dX6_isLet_23 (kV1 h_sv) (cV1 h_sv) h9 ?_
    refine aw_iconst (v := 3) dX6_isLet_24 (by decide) ?_
    refine aw_icmp_ne (tgt := 30) dX6_isLet_25 (by decide) (fun z => ?_) (fun z => ?_)
    · replace h := h.1 z
      refine aw_aload_n dX6_isLet_30 rfl rfl ?_
      refine aw_getf dX6_isLet_31 fl_X6_27 (by decide) ce_62 rfl (v := .ref 67) rfl ?_
      refine aw_aload_n dX6_isLet_34 rfl rfl ?_
      obtain ⟨h9, h⟩ := h
      refine aw_getf dX6_isLet_35 fl_X6_31 (by decide) ce_62 rfl (v := .ref sv) (congrArg Value.ref h9) ?_
      refine aw_iload_n dX6_isLet_38 rfl rfl ?_
      refine aw_callV (mi := iX4_tellSwearer) (av := [.ref sv, .int x2]) (st := []) dX6_isLet_39 ml_X6_79 kX4_tellSwearer (by decide) ce_67 clX4 rfl rfl rfl (Nat.le_of_ble_eq_true rfl) (AM.mono h (fun r9 M1 h => ?_))
      obtain ⟨rfl, h⟩ := h
      refine aw_aload_n dX6_isLet_42 rfl rfl ?_
      refine aw_getf dX6_isLet_43 fl_X6_27 (by decide) ce_62 rfl (v := .ref 67) rfl ?_
      refine aw_aload_n dX6_isLet_46 rfl rfl ?_
      obtain ⟨h9, h⟩ := h
      refine aw_getf dX6_isLet_47 fl_X6_31 (by decide) ce_62 rfl (v := .ref sv) (congrArg Value.ref h9) ?_
      refine aw_iload_n dX6_isLet_50 rfl rfl ?_
      refine aw_callV (mi := iX4_tellSwornTo) (av := [.ref sv, .int x1]) (st := []) dX6_isLet_51 ml_X6_83 kX4_tellSwornTo (by decide) ce_67 clX4 rfl rfl rfl (Nat.le_of_ble_eq_true rfl) (AM.mono h (fun r9 M2 h => ?_))
      obtain ⟨rfl, h⟩ := h
      refine aw_aload_n dX6_isLet_54 rfl rfl ?_
      obtain ⟨h9, h⟩ := h
      refine aw_getf dX6_isLet_55 fl_X6_35 (by decide) ce_62 rfl (v := .ref sa) (congrArg Value.ref h9) ?_
      refine aw_bipush (v := 110) dX6_isLet_58 (by decide) ?_
      refine aw_aload_n dX6_isLet_60 rfl rfl ?_
      refine aw_getf dX6_isLet_61 fl_X6_27 (by decide) ce_62 rfl (v := .ref 67) rfl ?_
      refine aw_getf dX6_isLet_64 fl_X6_92 (by decide) ce_67 rfl (v := .ref 68) rfl ?_
      refine aw_callV (mi := iX2_anyHolds) (av := [.int 110, .ref 68]) (st := []) dX6_isLet_67 ml_X6_132 kX2_anyHolds (kA0 h_sa) (cA0 h_sa) clX2 rfl rfl rfl (Nat.le_of_ble_eq_true rfl) (AM.mono h (fun r9 M3 h => ?_))
      obtain ⟨r3, rfl, h⟩ := h
      refine aw_if_ne (tgt := 77) dX6_isLet_70 (by decide) (fun z => ?_) (fun z => ?_)
      · replace h := h.1 z
        refine aw_iconst (v := 0) dX6_isLet_77 (by decide) ?_
        exact aw_iret dX6_isLet_78 rfl (nar_b (by decide)) h
      · replace h := h.2 z
        refine aw_iconst (v := 1) dX6_isLet_73 (by decide) ?_
        refine aw_goto (tgt := 78) dX6_isLet_74 (by decide) ?_
        exact aw_iret dX6_isLet_78 rfl (nar_b (by decide)) h
    · replace h := h.2 z
      refine aw_iconst (v := 0) dX6_isLet_28 (by decide) ?_
      exact aw_iret dX6_isLet_29 rfl (nar_b (by decide)) h
abbrev AX6_reckon (d : Nat) (Q : Option Int32 → Mem → Prop) (pc : Nat) (L : List (Option Value)) (st : List Value) (M : Mem) : Prop := AW none RX6 cX6_reckon 5 none d Q pc L st M
theorem eX6_reckon {d : Nat} {Q : Option Int32 → Mem → Prop} {v : Nat} {la : Nat} (M : Mem) (h : AX6_reckon d Q 0 [lR 62, lR v, lR la, none, none] [] M) : AM d iX6_reckon [.ref 62, .ref v, .ref la] M Q := AM.of2 (by decide) rfl rfl h
theorem bX6_reckon_0 {d : Nat} {Q : Option Int32 → Mem → Prop} {v : Nat} (h_v : isV v) {la : Nat} (h_la : isA la) {sv : Nat} (h_sv : isV sv) {sa : Nat} (h_sa : isA sa) (M : Mem) (h : (ix ((wr (wr M 62 5 (nI v)) 62 6 (nI la)) 62 5) = sv) ∧ (AMi d iX8_tallestOne [.ref sv] (wr (wr M 62 5 (nI v)) 62 6 (nI la)) (fun r1 M1 => (ix ((wr M1 62 8 r1) 62 5) = sv) ∧ (AMv d iX4_tellTime [.ref 67, .int ((wr M1 62 8 r1) sv 10), .int 0] (wr M1 62 8 r1) (fun M2 => AMv d iX6_orderUpward [.ref 62] M2 (fun M3 => AX6_reckon (d + 1) Q 42 [lR 62, none, none, lI 0, none] [] M3)))))) : AX6_reckon (d + 1) Q 0 [lR 62, lR v, lR la, none, none] [] M := by
  refine aw_aload_n dX6_reckon_0 rfl rfl ?_
  refine aw_aload_n dX6_reckon_1 rfl rfl ?_
  refine aw_putr dX6_reckon_2 fp_X6_31 (by decide) ce_62 rfl (sV0 h_v) (fun _ => rfl) (fun _ => rfl) ?_
  refine aw_aload_n dX6_reckon_5 rfl rfl ?_
  refine aw_aload_n dX6_reckon_6 rfl rfl ?_
  refine aw_putr dX6_reckon_7 fp_X6_35 (by decide) ce_62 rfl (sA0 h_la) (fun _ => rfl) (fun _ => rfl) ?_
  refine aw_aload_n dX6_reckon_10 rfl rfl ?_
  refine aw_aload_n dX6_reckon_11 rfl rfl ?_
  obtain ⟨h9, h⟩ := h
  refine aw_getf dX6_reckon_12 fl_X6_31 (by decide) ce_62 rfl (v := .ref sv) (congrArg Value.ref h9) ?_
  refine aw_callV (mi := iX8_tallestOne) (av := []) (st := [.ref 62]) dX6_reckon_15 ml_X6_39 kX8_tallestOne (kV0 h_sv) (cV0 h_sv) clX8 rfl rfl rfl (Nat.le_of_ble_eq_true rfl) (AM.mono h (fun r9 M1 h => ?_))
  obtain ⟨r1, rfl, h⟩ := h
  refine aw_putf dX6_reckon_18 fp_X6_45 (by decide) ce_62 rfl rfl rfl ?_
  refine aw_aload_n dX6_reckon_21 rfl rfl ?_
  refine aw_getf dX6_reckon_22 fl_X6_27 (by decide) ce_62 rfl (v := .ref 67) rfl ?_
  refine aw_aload_n dX6_reckon_25 rfl rfl ?_
  obtain ⟨h9, h⟩ := h
  refine aw_getf dX6_reckon_26 fl_X6_31 (by decide) ce_62 rfl (v := .ref sv) (congrArg Value.ref h9) ?_
  refine aw_getf dX6_reckon_29 fl_X6_49 (kV0 h_sv) (cV0 h_sv) rfl (v := .int ((wr M1 62 8 r1) sv 10)) rfl ?_
  refine aw_iconst (v := 0) dX6_reckon_32 (by decide) ?_
  refine aw_callV (mi := iX4_tellTime) (av := [.int ((wr M1 62 8 r1) sv 10), .int 0]) (st := []) dX6_reckon_33 ml_X6_52 kX4_tellTime (by decide) ce_67 clX4 rfl rfl rfl (Nat.le_of_ble_eq_true rfl) (AM.mono h (fun r9 M2 h => ?_))
  obtain ⟨rfl, h⟩ := h
  refine aw_aload_n dX6_reckon_36 rfl rfl ?_
  refine aw_callV (mi := iX6_orderUpward) (av := []) (st := []) dX6_reckon_37 ml_X6_56 kX6_orderUpward (by decide) ce_62 clX6 rfl rfl rfl (Nat.le_of_ble_eq_true rfl) (AM.mono h (fun r9 M3 h => ?_))
  obtain ⟨rfl, h⟩ := h
  refine aw_iconst (v := 0) dX6_reckon_40 (by decide) ?_
  refine aw_istore_n (L2 := [lR 62, lR v, lR la, lI 0, none]) dX6_reckon_41 rfl (by decide) rfl ?_
  exact aw_less (less_k (less_d (less_d (less_k (less_k less_nil))))) h
theorem bX6_reckon_42 {d : Nat} {Q : Option Int32 → Mem → Prop} {sv : Nat} (h_sv : isV sv) {sa : Nat} (h_sa : isA sa) (M : Mem) (x3 : Int32) (h : (16 ≤ x3 → AX6_reckon (d + 1) Q 63 [lR 62, none, none, lI 1, none] [] M) ∧ (¬ 16 ≤ x3 → (vp_in x3 16) ∧ (AX6_reckon (d + 1) Q 42 [lR 62, none, none, lI (x3 + 1), none] [] (wr M 65 (ix x3) 0)))) : AX6_reckon (d + 1) Q 42 [lR 62, none, none, lI x3, none] [] M := by
  refine aw_iload_n dX6_reckon_42 rfl rfl ?_
  refine aw_bipush (v := 16) dX6_reckon_43 (by decide) ?_
  refine aw_icmp_ge (tgt := 61) dX6_reckon_45 (by decide) (fun z => ?_) (fun z => ?_)
  · replace h := h.1 z
    refine aw_iconst (v := 1) dX6_reckon_61 (by decide) ?_
    refine aw_istore_n (L2 := [lR 62, none, none, lI 1, none]) dX6_reckon_62 rfl (by decide) rfl ?_
    exact h
  · replace h := h.2 z
    refine aw_aload_n dX6_reckon_48 rfl rfl ?_
    refine aw_getf dX6_reckon_49 fl_X6_18 (by decide) ce_62 rfl (v := .ref 65) rfl ?_
    refine aw_iload_n dX6_reckon_52 rfl rfl ?_
    refine aw_iconst (v := 0) dX6_reckon_53 (by decide) ?_
    obtain ⟨h9, h⟩ := h
    refine aw_iast dX6_reckon_54 (by decide) ce_65 h9 ?_
    refine aw_iinc (y := 1) (L2 := [lR 62, none, none, lI (x3 + 1), none]) dX6_reckon_55 rfl (by decide) (by decide) rfl ?_
    refine aw_goto (tgt := 42) dX6_reckon_58 (by decide) ?_
    exact h
theorem bX6_reckon_63 {d : Nat} {Q : Option Int32 → Mem → Prop} {sv : Nat} (h_sv : isV sv) {sa : Nat} (h_sa : isA sa) (M : Mem) (x3 : Int32) (h : ((M 62 7) ≤ x3 → Q none M) ∧ (¬ (M 62 7) ≤ x3 → AX6_reckon (d + 1) Q 74 [lR 62, none, none, lI x3, lI 0] [] M)) : AX6_reckon (d + 1) Q 63 [lR 62, none, none, lI x3, none] [] M := by
  refine aw_iload_n dX6_reckon_63 rfl rfl ?_
  refine aw_aload_n dX6_reckon_64 rfl rfl ?_
  refine aw_getf dX6_reckon_65 fl_X6_59 (by decide) ce_62 rfl (v := .int (M 62 7)) rfl ?_
  refine aw_icmp_ge (tgt := 135) dX6_reckon_68 (by decide) (fun z => ?_) (fun z => ?_)
  · replace h := h.1 z
    exact aw_vret dX6_reckon_135 rfl h
  · replace h := h.2 z
    refine aw_iconst (v := 0) dX6_reckon_71 (by decide) ?_
    refine aw_istore (L2 := [lR 62, none, none, lI x3, lI 0]) dX6_reckon_72 (by decide) rfl ?_
    exact h
theorem bX6_reckon_74 {d : Nat} {Q : Option Int32 → Mem → Prop} {sv : Nat} (h_sv : isV sv) {sa : Nat} (h_sa : isA sa) (M : Mem) (x3 x4 : Int32) (h : (x3 ≤ x4 → AX6_reckon (d + 1) Q 63 [lR 62, none, none, lI (x3 + 1), none] [] M) ∧ (¬ x3 ≤ x4 → (vp_in x4 16) ∧ ((vp_in x3 16) ∧ (AMi d iX6_isLet [.ref 62, .int (M 64 (ix x4)), .int (M 64 (ix x3))] M (fun r1 M1 => (r1 = 0 → AX6_reckon (d + 1) Q 74 [lR 62, none, none, lI x3, lI (x4 + 1)] [] M1) ∧ (¬ r1 = 0 → (vp_in x3 16) ∧ ((vp_in (M1 64 (ix x3)) 16) ∧ ((vp_in x4 16) ∧ ((vp_in (M1 64 (ix x3)) 16) ∧ (AX6_reckon (d + 1) Q 74 [lR 62, none, none, lI x3, lI (x4 + 1)] [] (wr M1 65 (ix (M1 64 (ix x3))) ((M1 65 (ix (M1 64 (ix x3)))) ||| ((1 : Int32) <<< ((M1 64 (ix x4)) &&& 31)))))))))))))) : AX6_reckon (d + 1) Q 74 [lR 62, none, none, lI x3, lI x4] [] M := by
  refine aw_iload dX6_reckon_74 rfl ?_
  refine aw_iload_n dX6_reckon_76 rfl rfl ?_
  refine aw_icmp_ge (tgt := 129) dX6_reckon_77 (by decide) (fun z => ?_) (fun z => ?_)
  · replace h := h.1 z
    refine aw_iinc (y := 1) (L2 := [lR 62, none, none, lI (x3 + 1), lI x4]) dX6_reckon_129 rfl (by decide) (by decide) rfl ?_
    refine aw_goto (tgt := 63) dX6_reckon_132 (by decide) ?_
    exact aw_less (less_k (less_k (less_k (less_k (less_d less_nil))))) h
  · replace h := h.2 z
    refine aw_aload_n dX6_reckon_80 rfl rfl ?_
    refine aw_aload_n dX6_reckon_81 rfl rfl ?_
    refine aw_getf dX6_reckon_82 fl_X6_15 (by decide) ce_62 rfl (v := .ref 64) rfl ?_
    refine aw_iload dX6_reckon_85 rfl ?_
    obtain ⟨h9, h⟩ := h
    refine aw_iald dX6_reckon_87 (by decide) ce_64 h9 ?_
    refine aw_aload_n dX6_reckon_88 rfl rfl ?_
    refine aw_getf dX6_reckon_89 fl_X6_15 (by decide) ce_62 rfl (v := .ref 64) rfl ?_
    refine aw_iload_n dX6_reckon_92 rfl rfl ?_
    obtain ⟨h9, h⟩ := h
    refine aw_iald dX6_reckon_93 (by decide) ce_64 h9 ?_
    refine aw_callV (mi := iX6_isLet) (av := [.int (M 64 (ix x4)), .int (M 64 (ix x3))]) (st := []) dX6_reckon_94 ml_X6_62 kX6_isLet (by decide) ce_62 clX6 rfl rfl rfl (Nat.le_of_ble_eq_true rfl) (AM.mono h (fun r9 M1 h => ?_))
    obtain ⟨r1, rfl, h⟩ := h
    refine aw_if_eq (tgt := 123) dX6_reckon_97 (by decide) (fun z => ?_) (fun z => ?_)
    · replace h := h.1 z
      refine aw_iinc (y := 1) (L2 := [lR 62, none, none, lI x3, lI (x4 + 1)]) dX6_reckon_123 rfl (by decide) (by decide) rfl ?_
      refine aw_goto (tgt := 74) dX6_reckon_126 (by decide) ?_
      exact h
    · replace h := h.2 z
      refine aw_aload_n dX6_reckon_100 rfl rfl ?_
      refine aw_getf dX6_reckon_101 fl_X6_18 (by decide) ce_62 rfl (v := .ref 65) rfl ?_
      refine aw_aload_n dX6_reckon_104 rfl rfl ?_
      refine aw_getf dX6_reckon_105 fl_X6_15 (by decide) ce_62 rfl (v := .ref 64) rfl ?_
      refine aw_iload_n dX6_reckon_108 rfl rfl ?_
      obtain ⟨h9, h⟩ := h
      refine aw_iald dX6_reckon_109 (by decide) ce_64 h9 ?_
      refine aw_dup2 dX6_reckon_110 rfl rfl ?_
      obtain ⟨h9, h⟩ := h
      refine aw_iald dX6_reckon_111 (by decide) ce_65 h9 ?_
      refine aw_iconst (v := 1) dX6_reckon_112 (by decide) ?_
      refine aw_aload_n dX6_reckon_113 rfl rfl ?_
      refine aw_getf dX6_reckon_114 fl_X6_15 (by decide) ce_62 rfl (v := .ref 64) rfl ?_
      refine aw_iload dX6_reckon_117 rfl ?_
      obtain ⟨h9, h⟩ := h
      refine aw_iald dX6_reckon_119 (by decide) ce_64 h9 ?_
      refine aw_ishl dX6_reckon_120 ?_
      refine aw_ior dX6_reckon_121 ?_
      obtain ⟨h9, h⟩ := h
      refine aw_iast dX6_reckon_122 (by decide) ce_65 h9 ?_
      refine aw_iinc (y := 1) (L2 := [lR 62, none, none, lI x3, lI (x4 + 1)]) dX6_reckon_123 rfl (by decide) (by decide) rfl ?_
      refine aw_goto (tgt := 74) dX6_reckon_126 (by decide) ?_
      exact h
abbrev AX6_priceByLaw (d : Nat) (Q : Option Int32 → Mem → Prop) (pc : Nat) (L : List (Option Value)) (st : List Value) (M : Mem) : Prop := AW none RX6 cX6_priceByLaw 4 (some .int) d Q pc L st M
theorem eX6_priceByLaw {d : Nat} {Q : Option Int32 → Mem → Prop} (M : Mem) (x1 x2 : Int32) (h : AX6_priceByLaw d Q 0 [lR 62, lI x1, lI x2, none] [] M) : AM d iX6_priceByLaw [.ref 62, .int x1, .int x2] M Q := AM.of2 (by decide) rfl rfl h
theorem bX6_priceByLaw_0 {d : Nat} {Q : Option Int32 → Mem → Prop} {sv : Nat} (h_sv : isV sv) {sa : Nat} (h_sa : isA sa) (M : Mem) (x1 x2 : Int32) (h : (ix (M 62 5) = sv) ∧ (AMv d iX4_tellSwearer [.ref 67, .ref sv, .int x2] M (fun M1 => (ix (M1 62 5) = sv) ∧ (AMv d iX4_tellSwornTo [.ref 67, .ref sv, .int x1] M1 (fun M2 => (ix (M2 62 5) = sv) ∧ ((vp_in x2 16) ∧ ((¬ (M2 (sv + 1) (ix x2)) = 1 → AX6_priceByLaw (d + 1) Q 50 [lR 62, none, none, none] [.int 0] M2) ∧ ((M2 (sv + 1) (ix x2)) = 1 → (ix (M2 62 5) = sv) ∧ ((vp_in x2 16) ∧ (AX6_priceByLaw (d + 1) Q 50 [lR 62, none, none, none] [.int (M2 (sv + 5) (ix x2))] M2)))))))))) : AX6_priceByLaw (d + 1) Q 0 [lR 62, lI x1, lI x2, none] [] M := by
  refine aw_aload_n dX6_priceByLaw_0 rfl rfl ?_
  refine aw_getf dX6_priceByLaw_1 fl_X6_27 (by decide) ce_62 rfl (v := .ref 67) rfl ?_
  refine aw_aload_n dX6_priceByLaw_4 rfl rfl ?_
  obtain ⟨h9, h⟩ := h
  refine aw_getf dX6_priceByLaw_5 fl_X6_31 (by decide) ce_62 rfl (v := .ref sv) (congrArg Value.ref h9) ?_
  refine aw_iload_n dX6_priceByLaw_8 rfl rfl ?_
  refine aw_callV (mi := iX4_tellSwearer) (av := [.ref sv, .int x2]) (st := []) dX6_priceByLaw_9 ml_X6_79 kX4_tellSwearer (by decide) ce_67 clX4 rfl rfl rfl (Nat.le_of_ble_eq_true rfl) (AM.mono h (fun r9 M1 h => ?_))
  obtain ⟨rfl, h⟩ := h
  refine aw_aload_n dX6_priceByLaw_12 rfl rfl ?_
  refine aw_getf dX6_priceByLaw_13 fl_X6_27 (by decide) ce_62 rfl (v := .ref 67) rfl ?_
  refine aw_aload_n dX6_priceByLaw_16 rfl rfl ?_
  obtain ⟨h9, h⟩ := h
  refine aw_getf dX6_priceByLaw_17 fl_X6_31 (by decide) ce_62 rfl (v := .ref sv) (congrArg Value.ref h9) ?_
  refine aw_iload_n dX6_priceByLaw_20 rfl rfl ?_
  refine aw_callV (mi := iX4_tellSwornTo) (av := [.ref sv, .int x1]) (st := []) dX6_priceByLaw_21 ml_X6_83 kX4_tellSwornTo (by decide) ce_67 clX4 rfl rfl rfl (Nat.le_of_ble_eq_true rfl) (AM.mono h (fun r9 M2 h => ?_))
  obtain ⟨rfl, h⟩ := h
  refine aw_aload_n dX6_priceByLaw_24 rfl rfl ?_
  obtain ⟨h9, h⟩ := h
  refine aw_getf dX6_priceByLaw_25 fl_X6_31 (by decide) ce_62 rfl (v := .ref sv) (congrArg Value.ref h9) ?_
  refine aw_getf dX6_priceByLaw_28 fl_X6_86 (kV0 h_sv) (cV0 h_sv) rfl (v := .ref (sv + 1)) rfl ?_
  refine aw_iload_n dX6_priceByLaw_31 rfl rfl ?_
  obtain ⟨h9, h⟩ := h
  refine aw_iald dX6_priceByLaw_32 (kV1 h_sv) (cV1 h_sv) h9 ?_
  refine aw_iconst (v := 1) dX6_priceByLaw_33 (by decide) ?_
  refine aw_icmp_ne (tgt := 49) dX6_priceByLaw_34 (by decide) (fun z => ?_) (fun z => ?_)
  · replace h := h.1 z
    refine aw_iconst (v := 0) dX6_priceByLaw_49 (by decide) ?_
    exact aw_less (less_k (less_d (less_d (less_k less_nil)))) h
  · replace h := h.2 z
    refine aw_aload_n dX6_priceByLaw_37 rfl rfl ?_
    obtain ⟨h9, h⟩ := h
    refine aw_getf dX6_priceByLaw_38 fl_X6_31 (by decide) ce_62 rfl (v := .ref sv) (congrArg Value.ref h9) ?_
    refine aw_getf dX6_priceByLaw_41 fl_X6_89 (kV0 h_sv) (cV0 h_sv) rfl (v := .ref (sv + 5)) rfl ?_
    refine aw_iload_n dX6_priceByLaw_44 rfl rfl ?_
    obtain ⟨h9, h⟩ := h
    refine aw_iald dX6_priceByLaw_45 (kV5 h_sv) (cV5 h_sv) h9 ?_
    refine aw_goto (tgt := 50) dX6_priceByLaw_46 (by decide) ?_
    exact aw_less (less_k (less_d (less_d (less_k less_nil)))) h
theorem bX6_priceByLaw_50 {d : Nat} {Q : Option Int32 → Mem → Prop} {sv : Nat} (h_sv : isV sv) {sa : Nat} (h_sa : isA sa) (M : Mem) (s0 : Int32) (h : (ix (M 62 6) = sa) ∧ (AMi d iX2_firstWorth [.ref sa, .int 112, .int 999, .ref 68] M (fun r1 M1 => Q (some (s0 + r1)) M1))) : AX6_priceByLaw (d + 1) Q 50 [lR 62, none, none, none] [.int s0] M := by
  refine aw_istore_n (L2 := [lR 62, none, none, lI s0]) dX6_priceByLaw_50 rfl (by decide) rfl ?_
  refine aw_iload_n dX6_priceByLaw_51 rfl rfl ?_
  refine aw_aload_n dX6_priceByLaw_52 rfl rfl ?_
  obtain ⟨h9, h⟩ := h
  refine aw_getf dX6_priceByLaw_53 fl_X6_35 (by decide) ce_62 rfl (v := .ref sa) (congrArg Value.ref h9) ?_
  refine aw_bipush (v := 112) dX6_priceByLaw_56 (by decide) ?_
  refine aw_sipush (v := 999) dX6_priceByLaw_58 (by decide) ?_
  refine aw_aload_n dX6_priceByLaw_61 rfl rfl ?_
  refine aw_getf dX6_priceByLaw_62 fl_X6_27 (by decide) ce_62 rfl (v := .ref 67) rfl ?_
  refine aw_getf dX6_priceByLaw_65 fl_X6_92 (by decide) ce_67 rfl (v := .ref 68) rfl ?_
  refine aw_callV (mi := iX2_firstWorth) (av := [.int 112, .int 999, .ref 68]) (st := [.int s0]) dX6_priceByLaw_68 ml_X6_95 kX2_firstWorth (kA0 h_sa) (cA0 h_sa) clX2 rfl rfl rfl (Nat.le_of_ble_eq_true rfl) (AM.mono h (fun r9 M1 h => ?_))
  obtain ⟨r1, rfl, h⟩ := h
  refine aw_iadd dX6_priceByLaw_71 ?_
  exact aw_iret dX6_priceByLaw_72 rfl rfl h
abbrev AX6_reckonPrices (d : Nat) (Q : Option Int32 → Mem → Prop) (pc : Nat) (L : List (Option Value)) (st : List Value) (M : Mem) : Prop := AW none RX6 cX6_reckonPrices 3 none d Q pc L st M
theorem eX6_reckonPrices {d : Nat} {Q : Option Int32 → Mem → Prop} (M : Mem) (h : AX6_reckonPrices d Q 0 [lR 62, none, none] [] M) : AM d iX6_reckonPrices [.ref 62] M Q := AM.of2 (by decide) rfl rfl h
theorem bX6_reckonPrices_0 {d : Nat} {Q : Option Int32 → Mem → Prop} {sv : Nat} (h_sv : isV sv) {sa : Nat} (h_sa : isA sa) (M : Mem) (h : AX6_reckonPrices (d + 1) Q 2 [lR 62, lI 0, none] [] M) : AX6_reckonPrices (d + 1) Q 0 [lR 62, none, none] [] M := by
  refine aw_iconst (v := 0) dX6_reckonPrices_0 (by decide) ?_
  refine aw_istore_n (L2 := [lR 62, lI 0, none]) dX6_reckonPrices_1 rfl (by decide) rfl ?_
  exact h
theorem bX6_reckonPrices_2 {d : Nat} {Q : Option Int32 → Mem → Prop} {sv : Nat} (h_sv : isV sv) {sa : Nat} (h_sa : isA sa) (M : Mem) (x1 : Int32) (h : (ix (M 62 5) = sv) ∧ (((M sv 7) ≤ x1 → Q none M) ∧ (¬ (M sv 7) ≤ x1 → AX6_reckonPrices (d + 1) Q 15 [lR 62, lI x1, lI 0] [] M))) : AX6_reckonPrices (d + 1) Q 2 [lR 62, lI x1, none] [] M := by
  refine aw_iload_n dX6_reckonPrices_2 rfl rfl ?_
  refine aw_aload_n dX6_reckonPrices_3 rfl rfl ?_
  obtain ⟨h9, h⟩ := h
  refine aw_getf dX6_reckonPrices_4 fl_X6_31 (by decide) ce_62 rfl (v := .ref sv) (congrArg Value.ref h9) ?_
  refine aw_getf dX6_reckonPrices_7 fl_X6_66 (kV0 h_sv) (cV0 h_sv) rfl (v := .int (M sv 7)) rfl ?_
  refine aw_icmp_ge (tgt := 64) dX6_reckonPrices_10 (by decide) (fun z => ?_) (fun z => ?_)
  · replace h := h.1 z
    exact aw_vret dX6_reckonPrices_64 rfl h
  · replace h := h.2 z
    refine aw_iconst (v := 0) dX6_reckonPrices_13 (by decide) ?_
    refine aw_istore_n (L2 := [lR 62, lI x1, lI 0]) dX6_reckonPrices_14 rfl (by decide) rfl ?_
    exact h
theorem bX6_reckonPrices_15 {d : Nat} {Q : Option Int32 → Mem → Prop} {sv : Nat} (h_sv : isV sv) {sa : Nat} (h_sa : isA sa) (M : Mem) (x1 x2 : Int32) (h : (ix (M 62 5) = sv) ∧ (((M sv 7) ≤ x2 → AX6_reckonPrices (d + 1) Q 2 [lR 62, lI (x1 + 1), none] [] M) ∧ (¬ (M sv 7) ≤ x2 → AMi d iX6_leads [.ref 62, .int x2, .int x1] M (fun r1 M1 => (r1 = 0 → AX6_reckonPrices (d + 1) Q 15 [lR 62, lI x1, lI (x2 + 1)] [] M1) ∧ (¬ r1 = 0 → AMi d iX6_priceByLaw [.ref 62, .int x2, .int x1] M1 (fun r2 M2 => (vp_in ((x2 * 16) + x1) 256) ∧ (AX6_reckonPrices (d + 1) Q 15 [lR 62, lI x1, lI (x2 + 1)] [] (wr M2 66 (ix ((x2 * 16) + x1)) r2)))))))) : AX6_reckonPrices (d + 1) Q 15 [lR 62, lI x1, lI x2] [] M := by
  refine aw_iload_n dX6_reckonPrices_15 rfl rfl ?_
  refine aw_aload_n dX6_reckonPrices_16 rfl rfl ?_
  obtain ⟨h9, h⟩ := h
  refine aw_getf dX6_reckonPrices_17 fl_X6_31 (by decide) ce_62 rfl (v := .ref sv) (congrArg Value.ref h9) ?_
  refine aw_getf dX6_reckonPrices_20 fl_X6_66 (kV0 h_sv) (cV0 h_sv) rfl (v := .int (M sv 7)) rfl ?_
  refine aw_icmp_ge (tgt := 58) dX6_reckonPrices_23 (by decide) (fun z => ?_) (fun z => ?_)
  · replace h := h.1 z
    refine aw_iinc (y := 1) (L2 := [lR 62, lI (x1 + 1), lI x2]) dX6_reckonPrices_58 rfl (by decide) (by decide) rfl ?_
    refine aw_goto (tgt := 2) dX6_reckonPrices_61 (by decide) ?_
    exact aw_less (less_k (less_k (less_d less_nil))) h
  · replace h := h.2 z
    refine aw_aload_n dX6_reckonPrices_26 rfl rfl ?_
    refine aw_iload_n dX6_reckonPrices_27 rfl rfl ?_
    refine aw_iload_n dX6_reckonPrices_28 rfl rfl ?_
    refine aw_callV (mi := iX6_leads) (av := [.int x2, .int x1]) (st := []) dX6_reckonPrices_29 ml_X6_69 kX6_leads (by decide) ce_62 clX6 rfl rfl rfl (Nat.le_of_ble_eq_true rfl) (AM.mono h (fun r9 M1 h => ?_))
    obtain ⟨r1, rfl, h⟩ := h
    refine aw_if_eq (tgt := 52) dX6_reckonPrices_32 (by decide) (fun z => ?_) (fun z => ?_)
    · replace h := h.1 z
      refine aw_iinc (y := 1) (L2 := [lR 62, lI x1, lI (x2 + 1)]) dX6_reckonPrices_52 rfl (by decide) (by decide) rfl ?_
      refine aw_goto (tgt := 15) dX6_reckonPrices_55 (by decide) ?_
      exact h
    · replace h := h.2 z
      refine aw_aload_n dX6_reckonPrices_35 rfl rfl ?_
      refine aw_getf dX6_reckonPrices_36 fl_X6_21 (by decide) ce_62 rfl (v := .ref 66) rfl ?_
      refine aw_iload_n dX6_reckonPrices_39 rfl rfl ?_
      refine aw_bipush (v := 16) dX6_reckonPrices_40 (by decide) ?_
      refine aw_imul dX6_reckonPrices_42 ?_
      refine aw_iload_n dX6_reckonPrices_43 rfl rfl ?_
      refine aw_iadd dX6_reckonPrices_44 ?_
      refine aw_aload_n dX6_reckonPrices_45 rfl rfl ?_
      refine aw_iload_n dX6_reckonPrices_46 rfl rfl ?_
      refine aw_iload_n dX6_reckonPrices_47 rfl rfl ?_
      refine aw_callV (mi := iX6_priceByLaw) (av := [.int x2, .int x1]) (st := [.int ((x2 * 16) + x1), .ref 66]) dX6_reckonPrices_48 ml_X6_72 kX6_priceByLaw (by decide) ce_62 clX6 rfl rfl rfl (Nat.le_of_ble_eq_true rfl) (AM.mono h (fun r9 M2 h => ?_))
      obtain ⟨r2, rfl, h⟩ := h
      obtain ⟨h9, h⟩ := h
      refine aw_iast dX6_reckonPrices_51 (by decide) ce_66 h9 ?_
      refine aw_iinc (y := 1) (L2 := [lR 62, lI x1, lI (x2 + 1)]) dX6_reckonPrices_52 rfl (by decide) (by decide) rfl ?_
      refine aw_goto (tgt := 15) dX6_reckonPrices_55 (by decide) ?_
      exact h
abbrev AX6_leastAsked (d : Nat) (Q : Option Int32 → Mem → Prop) (pc : Nat) (L : List (Option Value)) (st : List Value) (M : Mem) : Prop := AW none RX6 cX6_leastAsked 6 (some .int) d Q pc L st M
theorem eX6_leastAsked {d : Nat} {Q : Option Int32 → Mem → Prop} (M : Mem) (x1 x2 : Int32) (h : AX6_leastAsked d Q 0 [lR 62, lI x1, lI x2, none, none, none] [] M) : AM d iX6_leastAsked [.ref 62, .int x1, .int x2] M Q := AM.of2 (by decide) rfl rfl h
theorem bX6_leastAsked_0 {d : Nat} {Q : Option Int32 → Mem → Prop} {sv : Nat} (h_sv : isV sv) {sa : Nat} (h_sa : isA sa) (M : Mem) (x1 x2 : Int32) (h : AX6_leastAsked (d + 1) Q 5 [lR 62, lI x1, lI x2, lI (-1), lI 0, none] [] M) : AX6_leastAsked (d + 1) Q 0 [lR 62, lI x1, lI x2, none, none, none] [] M := by
  refine aw_iconst (v := (-1)) dX6_leastAsked_0 (by decide) ?_
  refine aw_istore_n (L2 := [lR 62, lI x1, lI x2, lI (-1), none, none]) dX6_leastAsked_1 rfl (by decide) rfl ?_
  refine aw_iconst (v := 0) dX6_leastAsked_2 (by decide) ?_
  refine aw_istore (L2 := [lR 62, lI x1, lI x2, lI (-1), lI 0, none]) dX6_leastAsked_3 (by decide) rfl ?_
  exact h
theorem bX6_leastAsked_5 {d : Nat} {Q : Option Int32 → Mem → Prop} {sv : Nat} (h_sv : isV sv) {sa : Nat} (h_sa : isA sa) (M : Mem) (x1 x2 x3 x4 : Int32) (h : (16 ≤ x4 → Q (some x3) M) ∧ (¬ 16 ≤ x4 → ((hasV x1 x4) = 0 → AX6_leastAsked (d + 1) Q 5 [lR 62, lI x1, lI x2, lI x3, lI (x4 + 1), none] [] M) ∧ (¬ (hasV x1 x4) = 0 → AMi d iX6_leads [.ref 62, .int x4, .int x2] M (fun r1 M1 => (r1 = 0 → AX6_leastAsked (d + 1) Q 5 [lR 62, lI x1, lI x2, lI x3, lI (x4 + 1), none] [] M1) ∧ (¬ r1 = 0 → AMi d iX6_priceOf [.ref 62, .int x4, .int x2] M1 (fun r2 M2 => (¬ x3 = (-1) → AX6_leastAsked (d + 1) Q 5 [lR 62, lI x1, lI x2, lI (if r2 < x3 then r2 else x3), lI (x4 + 1), none] [] M2) ∧ (x3 = (-1) → AX6_leastAsked (d + 1) Q 5 [lR 62, lI x1, lI x2, lI r2, lI (x4 + 1), none] [] M2))))))) : AX6_leastAsked (d + 1) Q 5 [lR 62, lI x1, lI x2, lI x3, lI x4, none] [] M := by
  refine aw_iload dX6_leastAsked_5 rfl ?_
  refine aw_bipush (v := 16) dX6_leastAsked_7 (by decide) ?_
  refine aw_icmp_ge (tgt := 63) dX6_leastAsked_9 (by decide) (fun z => ?_) (fun z => ?_)
  · replace h := h.1 z
    refine aw_iload_n dX6_leastAsked_63 rfl rfl ?_
    exact aw_iret dX6_leastAsked_64 rfl rfl h
  · replace h := h.2 z
    refine aw_iload_n dX6_leastAsked_12 rfl rfl ?_
    refine aw_iload dX6_leastAsked_13 rfl ?_
    refine aw_callN (mi := iX9_has) (av := [.int x1, .int x4]) (st := []) dX6_leastAsked_15 (host := "TallerWitness") (by decide) kX9_has rfl rfl (Nat.le_of_ble_eq_true rfl) (AM.mono (p_X9_has _ _) (fun r9 M9 e9 => ?_))
    obtain ⟨rfl, rfl⟩ := e9
    refine aw_if_eq (tgt := 57) dX6_leastAsked_18 (by decide) (fun z => ?_) (fun z => ?_)
    · replace h := h.1 z
      refine aw_iinc (y := 1) (L2 := [lR 62, lI x1, lI x2, lI x3, lI (x4 + 1), none]) dX6_leastAsked_57 rfl (by decide) (by decide) rfl ?_
      refine aw_goto (tgt := 5) dX6_leastAsked_60 (by decide) ?_
      exact h
    · replace h := h.2 z
      refine aw_aload_n dX6_leastAsked_21 rfl rfl ?_
      refine aw_iload dX6_leastAsked_22 rfl ?_
      refine aw_iload_n dX6_leastAsked_24 rfl rfl ?_
      refine aw_callV (mi := iX6_leads) (av := [.int x4, .int x2]) (st := []) dX6_leastAsked_25 ml_X6_69 kX6_leads (by decide) ce_62 clX6 rfl rfl rfl (Nat.le_of_ble_eq_true rfl) (AM.mono h (fun r9 M1 h => ?_))
      obtain ⟨r1, rfl, h⟩ := h
      refine aw_if_eq (tgt := 57) dX6_leastAsked_28 (by decide) (fun z => ?_) (fun z => ?_)
      · replace h := h.1 z
        refine aw_iinc (y := 1) (L2 := [lR 62, lI x1, lI x2, lI x3, lI (x4 + 1), none]) dX6_leastAsked_57 rfl (by decide) (by decide) rfl ?_
        refine aw_goto (tgt := 5) dX6_leastAsked_60 (by decide) ?_
        exact h
      · replace h := h.2 z
        refine aw_aload_n dX6_leastAsked_31 rfl rfl ?_
        refine aw_iload dX6_leastAsked_32 rfl ?_
        refine aw_iload_n dX6_leastAsked_34 rfl rfl ?_
        refine aw_callV (mi := iX6_priceOf) (av := [.int x4, .int x2]) (st := []) dX6_leastAsked_35 ml_X6_101 kX6_priceOf (by decide) ce_62 clX6 rfl rfl rfl (Nat.le_of_ble_eq_true rfl) (AM.mono h (fun r9 M2 h => ?_))
        obtain ⟨r2, rfl, h⟩ := h
        refine aw_istore (L2 := [lR 62, lI x1, lI x2, lI x3, lI x4, lI r2]) dX6_leastAsked_38 (by decide) rfl ?_
        refine aw_iload_n dX6_leastAsked_40 rfl rfl ?_
        refine aw_iconst (v := (-1)) dX6_leastAsked_41 (by decide) ?_
        refine aw_icmp_ne (tgt := 50) dX6_leastAsked_42 (by decide) (fun z => ?_) (fun z => ?_)
        · replace h := h.1 z
          refine aw_iload_n dX6_leastAsked_50 rfl rfl ?_
          refine aw_iload dX6_leastAsked_51 rfl ?_
          refine aw_mmin dX6_leastAsked_53 ml_X6_104 mm_min_s mm_i mm_min_c (Nat.le_of_ble_eq_true rfl) ?_
          refine aw_istore_n (L2 := [lR 62, lI x1, lI x2, lI (if r2 < x3 then r2 else x3), lI x4, lI r2]) dX6_leastAsked_56 rfl (by decide) rfl ?_
          refine aw_iinc (y := 1) (L2 := [lR 62, lI x1, lI x2, lI (if r2 < x3 then r2 else x3), lI (x4 + 1), lI r2]) dX6_leastAsked_57 rfl (by decide) (by decide) rfl ?_
          refine aw_goto (tgt := 5) dX6_leastAsked_60 (by decide) ?_
          exact aw_less (less_k (less_k (less_k (less_k (less_k (less_d less_nil)))))) h
        · replace h := h.2 z
          refine aw_iload dX6_leastAsked_45 rfl ?_
          refine aw_goto (tgt := 56) dX6_leastAsked_47 (by decide) ?_
          refine aw_istore_n (L2 := [lR 62, lI x1, lI x2, lI r2, lI x4, lI r2]) dX6_leastAsked_56 rfl (by decide) rfl ?_
          refine aw_iinc (y := 1) (L2 := [lR 62, lI x1, lI x2, lI r2, lI (x4 + 1), lI r2]) dX6_leastAsked_57 rfl (by decide) (by decide) rfl ?_
          refine aw_goto (tgt := 5) dX6_leastAsked_60 (by decide) ?_
          exact aw_less (less_k (less_k (less_k (less_k (less_k (less_d less_nil)))))) h
abbrev AX6_reachFrom (d : Nat) (Q : Option Int32 → Mem → Prop) (pc : Nat) (L : List (Option Value)) (st : List Value) (M : Mem) : Prop := AW none RX6 cX6_reachFrom 6 (some .int) d Q pc L st M
theorem eX6_reachFrom {d : Nat} {Q : Option Int32 → Mem → Prop} (M : Mem) (x1 x2 : Int32) (h : AX6_reachFrom d Q 0 [lR 62, lI x1, lI x2, none, none, none] [] M) : AM d iX6_reachFrom [.ref 62, .int x1, .int x2] M Q := AM.of2 (by decide) rfl rfl h
theorem bX6_reachFrom_0 {d : Nat} {Q : Option Int32 → Mem → Prop} {sv : Nat} (h_sv : isV sv) {sa : Nat} (h_sa : isA sa) (M : Mem) (x1 x2 : Int32) (h : AX6_reachFrom (d + 1) Q 7 [lR 62, none, lI x2, lI ((1 : Int32) <<< (x1 &&& 31)), lI 0, none] [] M) : AX6_reachFrom (d + 1) Q 0 [lR 62, lI x1, lI x2, none, none, none] [] M := by
  refine aw_iconst (v := 1) dX6_reachFrom_0 (by decide) ?_
  refine aw_iload_n dX6_reachFrom_1 rfl rfl ?_
  refine aw_ishl dX6_reachFrom_2 ?_
  refine aw_istore_n (L2 := [lR 62, lI x1, lI x2, lI ((1 : Int32) <<< (x1 &&& 31)), none, none]) dX6_reachFrom_3 rfl (by decide) rfl ?_
  refine aw_iconst (v := 0) dX6_reachFrom_4 (by decide) ?_
  refine aw_istore (L2 := [lR 62, lI x1, lI x2, lI ((1 : Int32) <<< (x1 &&& 31)), lI 0, none]) dX6_reachFrom_5 (by decide) rfl ?_
  exact aw_less (less_k (less_d (less_k (less_k (less_k (less_k less_nil)))))) h
theorem bX6_reachFrom_7 {d : Nat} {Q : Option Int32 → Mem → Prop} {sv : Nat} (h_sv : isV sv) {sa : Nat} (h_sa : isA sa) (M : Mem) (x2 x3 x4 : Int32) (h : ((M 62 7) ≤ x4 → Q (some x3) M) ∧ (¬ (M 62 7) ≤ x4 → (vp_in x4 16) ∧ (((hasV x2 (M 64 (ix x4))) = 0 → AX6_reachFrom (d + 1) Q 7 [lR 62, none, lI x2, lI x3, lI (x4 + 1), none] [] M) ∧ (¬ (hasV x2 (M 64 (ix x4))) = 0 → (vp_in (M 64 (ix x4)) 16) ∧ ((((M 65 (ix (M 64 (ix x4)))) &&& x3) = 0 → AX6_reachFrom (d + 1) Q 7 [lR 62, none, lI x2, lI x3, lI (x4 + 1), none] [] M) ∧ (¬ ((M 65 (ix (M 64 (ix x4)))) &&& x3) = 0 → AX6_reachFrom (d + 1) Q 7 [lR 62, none, lI x2, lI (x3 ||| ((1 : Int32) <<< ((M 64 (ix x4)) &&& 31))), lI (x4 + 1), none] [] M)))))) : AX6_reachFrom (d + 1) Q 7 [lR 62, none, lI x2, lI x3, lI x4, none] [] M := by
  refine aw_iload dX6_reachFrom_7 rfl ?_
  refine aw_aload_n dX6_reachFrom_9 rfl rfl ?_
  refine aw_getf dX6_reachFrom_10 fl_X6_59 (by decide) ce_62 rfl (v := .int (M 62 7)) rfl ?_
  refine aw_icmp_ge (tgt := 59) dX6_reachFrom_13 (by decide) (fun z => ?_) (fun z => ?_)
  · replace h := h.1 z
    refine aw_iload_n dX6_reachFrom_59 rfl rfl ?_
    exact aw_iret dX6_reachFrom_60 rfl rfl h
  · replace h := h.2 z
    refine aw_aload_n dX6_reachFrom_16 rfl rfl ?_
    refine aw_getf dX6_reachFrom_17 fl_X6_15 (by decide) ce_62 rfl (v := .ref 64) rfl ?_
    refine aw_iload dX6_reachFrom_20 rfl ?_
    obtain ⟨h9, h⟩ := h
    refine aw_iald dX6_reachFrom_22 (by decide) ce_64 h9 ?_
    refine aw_istore (L2 := [lR 62, none, lI x2, lI x3, lI x4, lI (M 64 (ix x4))]) dX6_reachFrom_23 (by decide) rfl ?_
    refine aw_iload_n dX6_reachFrom_25 rfl rfl ?_
    refine aw_iload dX6_reachFrom_26 rfl ?_
    refine aw_callN (mi := iX9_has) (av := [.int x2, .int (M 64 (ix x4))]) (st := []) dX6_reachFrom_28 (host := "TallerWitness") (by decide) kX9_has rfl rfl (Nat.le_of_ble_eq_true rfl) (AM.mono (p_X9_has _ _) (fun r9 M9 e9 => ?_))
    obtain ⟨rfl, rfl⟩ := e9
    refine aw_if_eq (tgt := 53) dX6_reachFrom_31 (by decide) (fun z => ?_) (fun z => ?_)
    · replace h := h.1 z
      refine aw_iinc (y := 1) (L2 := [lR 62, none, lI x2, lI x3, lI (x4 + 1), lI (M 64 (ix x4))]) dX6_reachFrom_53 rfl (by decide) (by decide) rfl ?_
      refine aw_goto (tgt := 7) dX6_reachFrom_56 (by decide) ?_
      exact aw_less (less_k (less_k (less_k (less_k (less_k (less_d less_nil)))))) h
    · replace h := h.2 z
      refine aw_aload_n dX6_reachFrom_34 rfl rfl ?_
      refine aw_getf dX6_reachFrom_35 fl_X6_18 (by decide) ce_62 rfl (v := .ref 65) rfl ?_
      refine aw_iload dX6_reachFrom_38 rfl ?_
      obtain ⟨h9, h⟩ := h
      refine aw_iald dX6_reachFrom_40 (by decide) ce_65 h9 ?_
      refine aw_iload_n dX6_reachFrom_41 rfl rfl ?_
      refine aw_iand dX6_reachFrom_42 ?_
      refine aw_if_eq (tgt := 53) dX6_reachFrom_43 (by decide) (fun z => ?_) (fun z => ?_)
      · replace h := h.1 z
        refine aw_iinc (y := 1) (L2 := [lR 62, none, lI x2, lI x3, lI (x4 + 1), lI (M 64 (ix x4))]) dX6_reachFrom_53 rfl (by decide) (by decide) rfl ?_
        refine aw_goto (tgt := 7) dX6_reachFrom_56 (by decide) ?_
        exact aw_less (less_k (less_k (less_k (less_k (less_k (less_d less_nil)))))) h
      · replace h := h.2 z
        refine aw_iload_n dX6_reachFrom_46 rfl rfl ?_
        refine aw_iconst (v := 1) dX6_reachFrom_47 (by decide) ?_
        refine aw_iload dX6_reachFrom_48 rfl ?_
        refine aw_ishl dX6_reachFrom_50 ?_
        refine aw_ior dX6_reachFrom_51 ?_
        refine aw_istore_n (L2 := [lR 62, none, lI x2, lI (x3 ||| ((1 : Int32) <<< ((M 64 (ix x4)) &&& 31))), lI x4, lI (M 64 (ix x4))]) dX6_reachFrom_52 rfl (by decide) rfl ?_
        refine aw_iinc (y := 1) (L2 := [lR 62, none, lI x2, lI (x3 ||| ((1 : Int32) <<< ((M 64 (ix x4)) &&& 31))), lI (x4 + 1), lI (M 64 (ix x4))]) dX6_reachFrom_53 rfl (by decide) (by decide) rfl ?_
        refine aw_goto (tgt := 7) dX6_reachFrom_56 (by decide) ?_
        exact aw_less (less_k (less_k (less_k (less_k (less_k (less_d less_nil)))))) h
abbrev AX6_comesToTop (d : Nat) (Q : Option Int32 → Mem → Prop) (pc : Nat) (L : List (Option Value)) (st : List Value) (M : Mem) : Prop := AW none RX6 cX6_comesToTop 3 (some .boolean) d Q pc L st M
theorem eX6_comesToTop {d : Nat} {Q : Option Int32 → Mem → Prop} (M : Mem) (x1 x2 : Int32) (h : AX6_comesToTop d Q 0 [lR 62, lI x1, lI x2] [] M) : AM d iX6_comesToTop [.ref 62, .int x1, .int x2] M Q := AM.of2 (by decide) rfl rfl h
theorem bX6_comesToTop_0 {d : Nat} {Q : Option Int32 → Mem → Prop} {sv : Nat} (h_sv : isV sv) {sa : Nat} (h_sa : isA sa) (M : Mem) (x1 x2 : Int32) (h : ((M 62 8) = (-1) → Q (some 0) M) ∧ (¬ (M 62 8) = (-1) → AMi d iX6_reachFrom [.ref 62, .int x1, .int x2] M (fun r1 M1 => ((hasV r1 (M1 62 8)) = 0 → Q (some 0) M1) ∧ (¬ (hasV r1 (M1 62 8)) = 0 → Q (some 1) M1)))) : AX6_comesToTop (d + 1) Q 0 [lR 62, lI x1, lI x2] [] M := by
  refine aw_aload_n dX6_comesToTop_0 rfl rfl ?_
  refine aw_getf dX6_comesToTop_1 fl_X6_45 (by decide) ce_62 rfl (v := .int (M 62 8)) rfl ?_
  refine aw_iconst (v := (-1)) dX6_comesToTop_4 (by decide) ?_
  refine aw_icmp_eq (tgt := 28) dX6_comesToTop_5 (by decide) (fun z => ?_) (fun z => ?_)
  · replace h := h.1 z
    refine aw_iconst (v := 0) dX6_comesToTop_28 (by decide) ?_
    exact aw_iret dX6_comesToTop_29 rfl (nar_b (by decide)) h
  · replace h := h.2 z
    refine aw_aload_n dX6_comesToTop_8 rfl rfl ?_
    refine aw_iload_n dX6_comesToTop_9 rfl rfl ?_
    refine aw_iload_n dX6_comesToTop_10 rfl rfl ?_
    refine aw_callV (mi := iX6_reachFrom) (av := [.int x1, .int x2]) (st := []) dX6_comesToTop_11 ml_X6_109 kX6_reachFrom (by decide) ce_62 clX6 rfl rfl rfl (Nat.le_of_ble_eq_true rfl) (AM.mono h (fun r9 M1 h => ?_))
    obtain ⟨r1, rfl, h⟩ := h
    refine aw_aload_n dX6_comesToTop_14 rfl rfl ?_
    refine aw_getf dX6_comesToTop_15 fl_X6_45 (by decide) ce_62 rfl (v := .int (M1 62 8)) rfl ?_
    refine aw_callN (mi := iX9_has) (av := [.int r1, .int (M1 62 8)]) (st := []) dX6_comesToTop_18 (host := "TallerWitness") (by decide) kX9_has rfl rfl (Nat.le_of_ble_eq_true rfl) (AM.mono (p_X9_has _ _) (fun r9 M9 e9 => ?_))
    obtain ⟨rfl, rfl⟩ := e9
    refine aw_if_eq (tgt := 28) dX6_comesToTop_21 (by decide) (fun z => ?_) (fun z => ?_)
    · replace h := h.1 z
      refine aw_iconst (v := 0) dX6_comesToTop_28 (by decide) ?_
      exact aw_iret dX6_comesToTop_29 rfl (nar_b (by decide)) h
    · replace h := h.2 z
      refine aw_iconst (v := 1) dX6_comesToTop_24 (by decide) ?_
      refine aw_goto (tgt := 29) dX6_comesToTop_25 (by decide) ?_
      exact aw_iret dX6_comesToTop_29 rfl (nar_b (by decide)) h
abbrev AX6_heldOaths (d : Nat) (Q : Option Int32 → Mem → Prop) (pc : Nat) (L : List (Option Value)) (st : List Value) (M : Mem) : Prop := AW none RX6 cX6_heldOaths 4 (some .int) d Q pc L st M
theorem eX6_heldOaths {d : Nat} {Q : Option Int32 → Mem → Prop} (M : Mem) (x1 : Int32) (h : AX6_heldOaths d Q 0 [lR 62, lI x1, none, none] [] M) : AM d iX6_heldOaths [.ref 62, .int x1] M Q := AM.of2 (by decide) rfl rfl h
theorem bX6_heldOaths_0 {d : Nat} {Q : Option Int32 → Mem → Prop} {sv : Nat} (h_sv : isV sv) {sa : Nat} (h_sa : isA sa) (M : Mem) (x1 : Int32) (h : AX6_heldOaths (d + 1) Q 4 [lR 62, lI x1, lI 0, lI 0] [] M) : AX6_heldOaths (d + 1) Q 0 [lR 62, lI x1, none, none] [] M := by
  refine aw_iconst (v := 0) dX6_heldOaths_0 (by decide) ?_
  refine aw_istore_n (L2 := [lR 62, lI x1, lI 0, none]) dX6_heldOaths_1 rfl (by decide) rfl ?_
  refine aw_iconst (v := 0) dX6_heldOaths_2 (by decide) ?_
  refine aw_istore_n (L2 := [lR 62, lI x1, lI 0, lI 0]) dX6_heldOaths_3 rfl (by decide) rfl ?_
  exact h
theorem bX6_heldOaths_4 {d : Nat} {Q : Option Int32 → Mem → Prop} {sv : Nat} (h_sv : isV sv) {sa : Nat} (h_sa : isA sa) (M : Mem) (x1 x2 x3 : Int32) (h : (ix (M 62 5) = sv) ∧ (((M sv 9) ≤ x3 → Q (some x2) M) ∧ (¬ (M sv 9) ≤ x3 → (ix (M 62 5) = sv) ∧ ((vp_in x3 12) ∧ ((ix (M 62 5) = sv) ∧ ((vp_in x3 12) ∧ (AMi d iX6_comesToTop [.ref 62, .int (M (sv + 6) (ix x3)), .int ((M (sv + 7) (ix x3)) ||| x1)] M (fun r1 M1 => (r1 = 0 → AX6_heldOaths (d + 1) Q 4 [lR 62, lI x1, lI x2, lI (x3 + 1)] [] M1) ∧ (¬ r1 = 0 → AX6_heldOaths (d + 1) Q 4 [lR 62, lI x1, lI (x2 ||| ((1 : Int32) <<< (x3 &&& 31))), lI (x3 + 1)] [] M1))))))))) : AX6_heldOaths (d + 1) Q 4 [lR 62, lI x1, lI x2, lI x3] [] M := by
  refine aw_iload_n dX6_heldOaths_4 rfl rfl ?_
  refine aw_aload_n dX6_heldOaths_5 rfl rfl ?_
  obtain ⟨h9, h⟩ := h
  refine aw_getf dX6_heldOaths_6 fl_X6_31 (by decide) ce_62 rfl (v := .ref sv) (congrArg Value.ref h9) ?_
  refine aw_getf dX6_heldOaths_9 fl_X6_112 (kV0 h_sv) (cV0 h_sv) rfl (v := .int (M sv 9)) rfl ?_
  refine aw_icmp_ge (tgt := 54) dX6_heldOaths_12 (by decide) (fun z => ?_) (fun z => ?_)
  · replace h := h.1 z
    refine aw_iload_n dX6_heldOaths_54 rfl rfl ?_
    exact aw_iret dX6_heldOaths_55 rfl rfl h
  · replace h := h.2 z
    refine aw_aload_n dX6_heldOaths_15 rfl rfl ?_
    refine aw_aload_n dX6_heldOaths_16 rfl rfl ?_
    obtain ⟨h9, h⟩ := h
    refine aw_getf dX6_heldOaths_17 fl_X6_31 (by decide) ce_62 rfl (v := .ref sv) (congrArg Value.ref h9) ?_
    refine aw_getf dX6_heldOaths_20 fl_X6_115 (kV0 h_sv) (cV0 h_sv) rfl (v := .ref (sv + 6)) rfl ?_
    refine aw_iload_n dX6_heldOaths_23 rfl rfl ?_
    obtain ⟨h9, h⟩ := h
    refine aw_iald dX6_heldOaths_24 (kV6 h_sv) (cV6 h_sv) h9 ?_
    refine aw_aload_n dX6_heldOaths_25 rfl rfl ?_
    obtain ⟨h9, h⟩ := h
    refine aw_getf dX6_heldOaths_26 fl_X6_31 (by decide) ce_62 rfl (v := .ref sv) (congrArg Value.ref h9) ?_
    refine aw_getf dX6_heldOaths_29 fl_X6_118 (kV0 h_sv) (cV0 h_sv) rfl (v := .ref (sv + 7)) rfl ?_
    refine aw_iload_n dX6_heldOaths_32 rfl rfl ?_
    obtain ⟨h9, h⟩ := h
    refine aw_iald dX6_heldOaths_33 (kV7 h_sv) (cV7 h_sv) h9 ?_
    refine aw_iload_n dX6_heldOaths_34 rfl rfl ?_
    refine aw_ior dX6_heldOaths_35 ?_
    refine aw_callV (mi := iX6_comesToTop) (av := [.int (M (sv + 6) (ix x3)), .int ((M (sv + 7) (ix x3)) ||| x1)]) (st := []) dX6_heldOaths_36 ml_X6_121 kX6_comesToTop (by decide) ce_62 clX6 rfl rfl rfl (Nat.le_of_ble_eq_true rfl) (AM.mono h (fun r9 M1 h => ?_))
    obtain ⟨r1, rfl, h⟩ := h
    refine aw_if_eq (tgt := 48) dX6_heldOaths_39 (by decide) (fun z => ?_) (fun z => ?_)
    · replace h := h.1 z
      refine aw_iinc (y := 1) (L2 := [lR 62, lI x1, lI x2, lI (x3 + 1)]) dX6_heldOaths_48 rfl (by decide) (by decide) rfl ?_
      refine aw_goto (tgt := 4) dX6_heldOaths_51 (by decide) ?_
      exact h
    · replace h := h.2 z
      refine aw_iload_n dX6_heldOaths_42 rfl rfl ?_
      refine aw_iconst (v := 1) dX6_heldOaths_43 (by decide) ?_
      refine aw_iload_n dX6_heldOaths_44 rfl rfl ?_
      refine aw_ishl dX6_heldOaths_45 ?_
      refine aw_ior dX6_heldOaths_46 ?_
      refine aw_istore_n (L2 := [lR 62, lI x1, lI (x2 ||| ((1 : Int32) <<< (x3 &&& 31))), lI x3]) dX6_heldOaths_47 rfl (by decide) rfl ?_
      refine aw_iinc (y := 1) (L2 := [lR 62, lI x1, lI (x2 ||| ((1 : Int32) <<< (x3 &&& 31))), lI (x3 + 1)]) dX6_heldOaths_48 rfl (by decide) (by decide) rfl ?_
      refine aw_goto (tgt := 4) dX6_heldOaths_51 (by decide) ?_
      exact h
abbrev AX6_outlasts (d : Nat) (Q : Option Int32 → Mem → Prop) (pc : Nat) (L : List (Option Value)) (st : List Value) (M : Mem) : Prop := AW none RX6 cX6_outlasts 9 (some .boolean) d Q pc L st M
theorem eX6_outlasts {d : Nat} {Q : Option Int32 → Mem → Prop} (M : Mem) (x1 x2 x3 : Int32) (h : AX6_outlasts d Q 0 [lR 62, lI x1, lI x2, lI x3, none, none, none, none, none] [] M) : AM d iX6_outlasts [.ref 62, .int x1, .int x2, .int x3] M Q := AM.of2 (by decide) rfl rfl h
theorem bX6_outlasts_0 {d : Nat} {Q : Option Int32 → Mem → Prop} {sv : Nat} (h_sv : isV sv) {sa : Nat} (h_sa : isA sa) (M : Mem) (x1 x2 x3 : Int32) (h : AMi d iX6_comesToTop [.ref 62, .int x1, .int x2] M (fun r1 M1 => (¬ r1 = 0 → AX6_outlasts (d + 1) Q 32 [lR 62, lI x1, lI x2, lI x3, lI ((x2 &&& (((1 : Int32) <<< (x1 &&& 31)) ^^^ (-1))) &&& (((1 : Int32) <<< ((M1 62 8) &&& 31)) ^^^ (-1))), lI 0, none, none, none] [] M1) ∧ (r1 = 0 → Q (some 0) M1))) : AX6_outlasts (d + 1) Q 0 [lR 62, lI x1, lI x2, lI x3, none, none, none, none, none] [] M := by
  refine aw_aload_n dX6_outlasts_0 rfl rfl ?_
  refine aw_iload_n dX6_outlasts_1 rfl rfl ?_
  refine aw_iload_n dX6_outlasts_2 rfl rfl ?_
  refine aw_callV (mi := iX6_comesToTop) (av := [.int x1, .int x2]) (st := []) dX6_outlasts_3 ml_X6_121 kX6_comesToTop (by decide) ce_62 clX6 rfl rfl rfl (Nat.le_of_ble_eq_true rfl) (AM.mono h (fun r9 M1 h => ?_))
  obtain ⟨r1, rfl, h⟩ := h
  refine aw_if_ne (tgt := 11) dX6_outlasts_6 (by decide) (fun z => ?_) (fun z => ?_)
  · replace h := h.1 z
    refine aw_iload_n dX6_outlasts_11 rfl rfl ?_
    refine aw_iconst (v := 1) dX6_outlasts_12 (by decide) ?_
    refine aw_iload_n dX6_outlasts_13 rfl rfl ?_
    refine aw_ishl dX6_outlasts_14 ?_
    refine aw_iconst (v := (-1)) dX6_outlasts_15 (by decide) ?_
    refine aw_ixor dX6_outlasts_16 ?_
    refine aw_iand dX6_outlasts_17 ?_
    refine aw_iconst (v := 1) dX6_outlasts_18 (by decide) ?_
    refine aw_aload_n dX6_outlasts_19 rfl rfl ?_
    refine aw_getf dX6_outlasts_20 fl_X6_45 (by decide) ce_62 rfl (v := .int (M1 62 8)) rfl ?_
    refine aw_ishl dX6_outlasts_23 ?_
    refine aw_iconst (v := (-1)) dX6_outlasts_24 (by decide) ?_
    refine aw_ixor dX6_outlasts_25 ?_
    refine aw_iand dX6_outlasts_26 ?_
    refine aw_istore (L2 := [lR 62, lI x1, lI x2, lI x3, lI ((x2 &&& (((1 : Int32) <<< (x1 &&& 31)) ^^^ (-1))) &&& (((1 : Int32) <<< ((M1 62 8) &&& 31)) ^^^ (-1))), none, none, none, none]) dX6_outlasts_27 (by decide) rfl ?_
    refine aw_iconst (v := 0) dX6_outlasts_29 (by decide) ?_
    refine aw_istore (L2 := [lR 62, lI x1, lI x2, lI x3, lI ((x2 &&& (((1 : Int32) <<< (x1 &&& 31)) ^^^ (-1))) &&& (((1 : Int32) <<< ((M1 62 8) &&& 31)) ^^^ (-1))), lI 0, none, none, none]) dX6_outlasts_30 (by decide) rfl ?_
    exact h
  · replace h := h.2 z
    refine aw_iconst (v := 0) dX6_outlasts_9 (by decide) ?_
    exact aw_iret dX6_outlasts_10 rfl (nar_b (by decide)) h
theorem bX6_outlasts_32 {d : Nat} {Q : Option Int32 → Mem → Prop} {sv : Nat} (h_sv : isV sv) {sa : Nat} (h_sa : isA sa) (M : Mem) (x1 x2 x3 x4 x5 : Int32) (h : (16 ≤ x5 → Q (some 1) M) ∧ (¬ 16 ≤ x5 → (x3 ≤ 1 → AX6_outlasts (d + 1) Q 57 [lR 62, lI x1, lI x2, lI x3, lI x4, lI x5, lI x5, lI x5, none] [] M) ∧ (¬ x3 ≤ 1 → AX6_outlasts (d + 1) Q 57 [lR 62, lI x1, lI x2, lI x3, lI x4, lI x5, lI 15, lI x5, none] [] M))) : AX6_outlasts (d + 1) Q 32 [lR 62, lI x1, lI x2, lI x3, lI x4, lI x5, none, none, none] [] M := by
  refine aw_iload dX6_outlasts_32 rfl ?_
  refine aw_bipush (v := 16) dX6_outlasts_34 (by decide) ?_
  refine aw_icmp_ge (tgt := 123) dX6_outlasts_36 (by decide) (fun z => ?_) (fun z => ?_)
  · replace h := h.1 z
    refine aw_iconst (v := 1) dX6_outlasts_123 (by decide) ?_
    exact aw_iret dX6_outlasts_124 rfl (nar_b (by decide)) h
  · replace h := h.2 z
    refine aw_iload_n dX6_outlasts_39 rfl rfl ?_
    refine aw_iconst (v := 1) dX6_outlasts_40 (by decide) ?_
    refine aw_icmp_le (tgt := 49) dX6_outlasts_41 (by decide) (fun z => ?_) (fun z => ?_)
    · replace h := h.1 z
      refine aw_iload dX6_outlasts_49 rfl ?_
      refine aw_istore (L2 := [lR 62, lI x1, lI x2, lI x3, lI x4, lI x5, lI x5, none, none]) dX6_outlasts_51 (by decide) rfl ?_
      refine aw_iload dX6_outlasts_53 rfl ?_
      refine aw_istore (L2 := [lR 62, lI x1, lI x2, lI x3, lI x4, lI x5, lI x5, lI x5, none]) dX6_outlasts_55 (by decide) rfl ?_
      exact h
    · replace h := h.2 z
      refine aw_bipush (v := 15) dX6_outlasts_44 (by decide) ?_
      refine aw_goto (tgt := 51) dX6_outlasts_46 (by decide) ?_
      refine aw_istore (L2 := [lR 62, lI x1, lI x2, lI x3, lI x4, lI x5, lI 15, none, none]) dX6_outlasts_51 (by decide) rfl ?_
      refine aw_iload dX6_outlasts_53 rfl ?_
      refine aw_istore (L2 := [lR 62, lI x1, lI x2, lI x3, lI x4, lI x5, lI 15, lI x5, none]) dX6_outlasts_55 (by decide) rfl ?_
      exact h
theorem bX6_outlasts_57 {d : Nat} {Q : Option Int32 → Mem → Prop} {sv : Nat} (h_sv : isV sv) {sa : Nat} (h_sa : isA sa) (M : Mem) (x1 x2 x3 x4 x5 x6 x7 : Int32) (h : ((hasV x4 x5) = 0 → AX6_outlasts (d + 1) Q 32 [lR 62, lI x1, lI x2, lI x3, lI x4, lI (x5 + 1), none, none, none] [] M) ∧ (¬ (hasV x4 x5) = 0 → (x6 < x7 → AX6_outlasts (d + 1) Q 32 [lR 62, lI x1, lI x2, lI x3, lI x4, lI (x5 + 1), none, none, none] [] M) ∧ (¬ x6 < x7 → ((hasV x4 x7) = 0 → AX6_outlasts (d + 1) Q 57 [lR 62, lI x1, lI x2, lI x3, lI x4, lI x5, lI x6, lI (x7 + 1), none] [] M) ∧ (¬ (hasV x4 x7) = 0 → AMi d iX6_comesToTop [.ref 62, .int x1, .int (x2 &&& ((((1 : Int32) <<< (x5 &&& 31)) ||| ((1 : Int32) <<< (x7 &&& 31))) ^^^ (-1)))] M (fun r1 M1 => (¬ r1 = 0 → AX6_outlasts (d + 1) Q 57 [lR 62, lI x1, lI x2, lI x3, lI x4, lI x5, lI x6, lI (x7 + 1), none] [] M1) ∧ (r1 = 0 → Q (some 0) M1)))))) : AX6_outlasts (d + 1) Q 57 [lR 62, lI x1, lI x2, lI x3, lI x4, lI x5, lI x6, lI x7, none] [] M := by
  refine aw_iload dX6_outlasts_57 rfl ?_
  refine aw_iload dX6_outlasts_59 rfl ?_
  refine aw_callN (mi := iX9_has) (av := [.int x4, .int x5]) (st := []) dX6_outlasts_61 (host := "TallerWitness") (by decide) kX9_has rfl rfl (Nat.le_of_ble_eq_true rfl) (AM.mono (p_X9_has _ _) (fun r9 M9 e9 => ?_))
  obtain ⟨rfl, rfl⟩ := e9
  refine aw_if_eq (tgt := 117) dX6_outlasts_64 (by decide) (fun z => ?_) (fun z => ?_)
  · replace h := h.1 z
    refine aw_iinc (y := 1) (L2 := [lR 62, lI x1, lI x2, lI x3, lI x4, lI (x5 + 1), lI x6, lI x7, none]) dX6_outlasts_117 rfl (by decide) (by decide) rfl ?_
    refine aw_goto (tgt := 32) dX6_outlasts_120 (by decide) ?_
    exact aw_less (less_k (less_k (less_k (less_k (less_k (less_k (less_d (less_d (less_k less_nil))))))))) h
  · replace h := h.2 z
    refine aw_iload dX6_outlasts_67 rfl ?_
    refine aw_iload dX6_outlasts_69 rfl ?_
    refine aw_icmp_gt (tgt := 117) dX6_outlasts_71 (by decide) (fun z => ?_) (fun z => ?_)
    · replace h := h.1 z
      refine aw_iinc (y := 1) (L2 := [lR 62, lI x1, lI x2, lI x3, lI x4, lI (x5 + 1), lI x6, lI x7, none]) dX6_outlasts_117 rfl (by decide) (by decide) rfl ?_
      refine aw_goto (tgt := 32) dX6_outlasts_120 (by decide) ?_
      exact aw_less (less_k (less_k (less_k (less_k (less_k (less_k (less_d (less_d (less_k less_nil))))))))) h
    · replace h := h.2 z
      refine aw_iconst (v := 1) dX6_outlasts_74 (by decide) ?_
      refine aw_iload dX6_outlasts_75 rfl ?_
      refine aw_ishl dX6_outlasts_77 ?_
      refine aw_iconst (v := 1) dX6_outlasts_78 (by decide) ?_
      refine aw_iload dX6_outlasts_79 rfl ?_
      refine aw_ishl dX6_outlasts_81 ?_
      refine aw_ior dX6_outlasts_82 ?_
      refine aw_istore (L2 := [lR 62, lI x1, lI x2, lI x3, lI x4, lI x5, lI x6, lI x7, lI (((1 : Int32) <<< (x5 &&& 31)) ||| ((1 : Int32) <<< (x7 &&& 31)))]) dX6_outlasts_83 (by decide) rfl ?_
      refine aw_iload dX6_outlasts_85 rfl ?_
      refine aw_iload dX6_outlasts_87 rfl ?_
      refine aw_callN (mi := iX9_has) (av := [.int x4, .int x7]) (st := []) dX6_outlasts_89 (host := "TallerWitness") (by decide) kX9_has rfl rfl (Nat.le_of_ble_eq_true rfl) (AM.mono (p_X9_has _ _) (fun r9 M9 e9 => ?_))
      obtain ⟨rfl, rfl⟩ := e9
      refine aw_if_eq (tgt := 111) dX6_outlasts_92 (by decide) (fun z => ?_) (fun z => ?_)
      · replace h := h.1 z
        refine aw_iinc (y := 1) (L2 := [lR 62, lI x1, lI x2, lI x3, lI x4, lI x5, lI x6, lI (x7 + 1), lI (((1 : Int32) <<< (x5 &&& 31)) ||| ((1 : Int32) <<< (x7 &&& 31)))]) dX6_outlasts_111 rfl (by decide) (by decide) rfl ?_
        refine aw_goto (tgt := 57) dX6_outlasts_114 (by decide) ?_
        exact aw_less (less_k (less_k (less_k (less_k (less_k (less_k (less_k (less_k (less_d less_nil))))))))) h
      · replace h := h.2 z
        refine aw_aload_n dX6_outlasts_95 rfl rfl ?_
        refine aw_iload_n dX6_outlasts_96 rfl rfl ?_
        refine aw_iload_n dX6_outlasts_97 rfl rfl ?_
        refine aw_iload dX6_outlasts_98 rfl ?_
        refine aw_iconst (v := (-1)) dX6_outlasts_100 (by decide) ?_
        refine aw_ixor dX6_outlasts_101 ?_
        refine aw_iand dX6_outlasts_102 ?_
        refine aw_callV (mi := iX6_comesToTop) (av := [.int x1, .int (x2 &&& ((((1 : Int32) <<< (x5 &&& 31)) ||| ((1 : Int32) <<< (x7 &&& 31))) ^^^ (-1)))]) (st := []) dX6_outlasts_103 ml_X6_121 kX6_comesToTop (by decide) ce_62 clX6 rfl rfl rfl (Nat.le_of_ble_eq_true rfl) (AM.mono h (fun r9 M1 h => ?_))
        obtain ⟨r1, rfl, h⟩ := h
        refine aw_if_ne (tgt := 111) dX6_outlasts_106 (by decide) (fun z => ?_) (fun z => ?_)
        · replace h := h.1 z
          refine aw_iinc (y := 1) (L2 := [lR 62, lI x1, lI x2, lI x3, lI x4, lI x5, lI x6, lI (x7 + 1), lI (((1 : Int32) <<< (x5 &&& 31)) ||| ((1 : Int32) <<< (x7 &&& 31)))]) dX6_outlasts_111 rfl (by decide) (by decide) rfl ?_
          refine aw_goto (tgt := 57) dX6_outlasts_114 (by decide) ?_
          exact aw_less (less_k (less_k (less_k (less_k (less_k (less_k (less_k (less_k (less_d less_nil))))))))) h
        · replace h := h.2 z
          refine aw_iconst (v := 0) dX6_outlasts_109 (by decide) ?_
          exact aw_iret dX6_outlasts_110 rfl (nar_b (by decide)) h
abbrev AX0_chooseNext (d : Nat) (Q : Option Int32 → Mem → Prop) (pc : Nat) (L : List (Option Value)) (st : List Value) (M : Mem) : Prop := AW none RX0 cX0_chooseNext 7 none d Q pc L st M
theorem eX0_chooseNext {d : Nat} {Q : Option Int32 → Mem → Prop} (M : Mem) (x1 x2 : Int32) (h : AX0_chooseNext d Q 0 [lR 69, lI x1, lI x2, none, none, none, none] [] M) : AM d iX0_chooseNext [.ref 69, .int x1, .int x2] M Q := AM.of2 (by decide) rfl rfl h
theorem bX0_chooseNext_0 {d : Nat} {Q : Option Int32 → Mem → Prop} (M : Mem) (x1 x2 : Int32) (h : AX0_chooseNext (d + 1) Q 2 [lR 69, lI x1, lI x2, lI 0, none, none, none] [] M) : AX0_chooseNext (d + 1) Q 0 [lR 69, lI x1, lI x2, none, none, none, none] [] M := by
  refine aw_iconst (v := 0) dX0_chooseNext_0 (by decide) ?_
  refine aw_istore_n (L2 := [lR 69, lI x1, lI x2, lI 0, none, none, none]) dX0_chooseNext_1 rfl (by decide) rfl ?_
  exact h
theorem bX0_chooseNext_2 {d : Nat} {Q : Option Int32 → Mem → Prop} (M : Mem) (x1 x2 x3 : Int32) (h : (16 ≤ x3 → Q none M) ∧ (¬ 16 ≤ x3 → (vp_in x3 16) ∧ (((M 71 (ix x3)) ≤ 0 → AX0_chooseNext (d + 1) Q 2 [lR 69, lI x1, lI x2, lI (x3 + 1), none, none, none] [] M) ∧ (¬ (M 71 (ix x3)) ≤ 0 → AMi d iX6_leads [.ref 62, .int x1, .int x3] M (fun r1 M1 => (r1 = 0 → AX0_chooseNext (d + 1) Q 2 [lR 69, lI x1, lI x2, lI (x3 + 1), none, none, none] [] M1) ∧ (¬ r1 = 0 → (vp_in x3 16) ∧ (((hasV x2 x3) = 0 → AMi d iX6_priceOf [.ref 62, .int x1, .int x3] M1 (fun r2 M2 => AX0_chooseNext (d + 1) Q 56 [lR 69, lI x1, lI x2, lI x3, none, none, none] [.int r2, .int (M1 70 (ix x3))] M2)) ∧ (¬ (hasV x2 x3) = 0 → AX0_chooseNext (d + 1) Q 56 [lR 69, lI x1, lI x2, lI x3, none, none, none] [.int 0, .int (M1 70 (ix x3))] M1)))))))) : AX0_chooseNext (d + 1) Q 2 [lR 69, lI x1, lI x2, lI x3, none, none, none] [] M := by
  refine aw_iload_n dX0_chooseNext_2 rfl rfl ?_
  refine aw_bipush (v := 16) dX0_chooseNext_3 (by decide) ?_
  refine aw_icmp_ge (tgt := 152) dX0_chooseNext_5 (by decide) (fun z => ?_) (fun z => ?_)
  · replace h := h.1 z
    exact aw_vret dX0_chooseNext_152 rfl h
  · replace h := h.2 z
    refine aw_aload_n dX0_chooseNext_8 rfl rfl ?_
    refine aw_getf dX0_chooseNext_9 fl_X0_15 (by decide) ce_69 rfl (v := .ref 71) rfl ?_
    refine aw_iload_n dX0_chooseNext_12 rfl rfl ?_
    obtain ⟨h9, h⟩ := h
    refine aw_iald dX0_chooseNext_13 (by decide) ce_71 h9 ?_
    refine aw_if_le (tgt := 146) dX0_chooseNext_14 (by decide) (fun z => ?_) (fun z => ?_)
    · replace h := h.1 z
      refine aw_iinc (y := 1) (L2 := [lR 69, lI x1, lI x2, lI (x3 + 1), none, none, none]) dX0_chooseNext_146 rfl (by decide) (by decide) rfl ?_
      refine aw_goto (tgt := 2) dX0_chooseNext_149 (by decide) ?_
      exact h
    · replace h := h.2 z
      refine aw_aload_n dX0_chooseNext_17 rfl rfl ?_
      refine aw_getf dX0_chooseNext_18 fl_X0_21 (by decide) ce_69 rfl (v := .ref 62) rfl ?_
      refine aw_iload_n dX0_chooseNext_21 rfl rfl ?_
      refine aw_iload_n dX0_chooseNext_22 rfl rfl ?_
      refine aw_callV (mi := iX6_leads) (av := [.int x1, .int x3]) (st := []) dX0_chooseNext_23 ml_X0_44 kX6_leads (by decide) ce_62 clX6 rfl rfl rfl (Nat.le_of_ble_eq_true rfl) (AM.mono h (fun r9 M1 h => ?_))
      obtain ⟨r1, rfl, h⟩ := h
      refine aw_if_eq (tgt := 146) dX0_chooseNext_26 (by decide) (fun z => ?_) (fun z => ?_)
      · replace h := h.1 z
        refine aw_iinc (y := 1) (L2 := [lR 69, lI x1, lI x2, lI (x3 + 1), none, none, none]) dX0_chooseNext_146 rfl (by decide) (by decide) rfl ?_
        refine aw_goto (tgt := 2) dX0_chooseNext_149 (by decide) ?_
        exact h
      · replace h := h.2 z
        refine aw_aload_n dX0_chooseNext_29 rfl rfl ?_
        refine aw_getf dX0_chooseNext_30 fl_X0_9 (by decide) ce_69 rfl (v := .ref 70) rfl ?_
        refine aw_iload_n dX0_chooseNext_33 rfl rfl ?_
        obtain ⟨h9, h⟩ := h
        refine aw_iald dX0_chooseNext_34 (by decide) ce_70 h9 ?_
        refine aw_iload_n dX0_chooseNext_35 rfl rfl ?_
        refine aw_iload_n dX0_chooseNext_36 rfl rfl ?_
        refine aw_callN (mi := iX9_has) (av := [.int x2, .int x3]) (st := [.int (M1 70 (ix x3))]) dX0_chooseNext_37 (host := "TallerWitness") (by decide) kX9_has rfl rfl (Nat.le_of_ble_eq_true rfl) (AM.mono (p_X9_has _ _) (fun r9 M9 e9 => ?_))
        obtain ⟨rfl, rfl⟩ := e9
        refine aw_if_eq (tgt := 47) dX0_chooseNext_40 (by decide) (fun z => ?_) (fun z => ?_)
        · replace h := h.1 z
          refine aw_aload_n dX0_chooseNext_47 rfl rfl ?_
          refine aw_getf dX0_chooseNext_48 fl_X0_21 (by decide) ce_69 rfl (v := .ref 62) rfl ?_
          refine aw_iload_n dX0_chooseNext_51 rfl rfl ?_
          refine aw_iload_n dX0_chooseNext_52 rfl rfl ?_
          refine aw_callV (mi := iX6_priceOf) (av := [.int x1, .int x3]) (st := [.int (M1 70 (ix x3))]) dX0_chooseNext_53 ml_X0_51 kX6_priceOf (by decide) ce_62 clX6 rfl rfl rfl (Nat.le_of_ble_eq_true rfl) (AM.mono h (fun r9 M2 h => ?_))
          obtain ⟨r2, rfl, h⟩ := h
          exact h
        · replace h := h.2 z
          refine aw_iconst (v := 0) dX0_chooseNext_43 (by decide) ?_
          refine aw_goto (tgt := 56) dX0_chooseNext_44 (by decide) ?_
          exact h
theorem bX0_chooseNext_56 {d : Nat} {Q : Option Int32 → Mem → Prop} (M : Mem) (x1 x2 x3 s0 s1 : Int32) (h : (vp_in x3 16) ∧ ((vp_in x1 16) ∧ (((s1 + s0) < (M 70 (ix x1)) → AX0_chooseNext (d + 1) Q 102 [lR 69, lI x1, lI x2, lI x3, lI (s1 + s0), lI ((M 71 (ix x3)) + 1), none] [] M) ∧ (¬ (s1 + s0) < (M 70 (ix x1)) → (vp_in x1 16) ∧ ((¬ (s1 + s0) = (M 70 (ix x1)) → AX0_chooseNext (d + 1) Q 106 [lR 69, lI x1, lI x2, lI x3, lI (s1 + s0), lI ((M 71 (ix x3)) + 1), none] [] M) ∧ ((s1 + s0) = (M 70 (ix x1)) → (vp_in x1 16) ∧ (((M 71 (ix x1)) ≤ ((M 71 (ix x3)) + 1) → AX0_chooseNext (d + 1) Q 106 [lR 69, lI x1, lI x2, lI x3, lI (s1 + s0), lI ((M 71 (ix x3)) + 1), none] [] M) ∧ (¬ (M 71 (ix x1)) ≤ ((M 71 (ix x3)) + 1) → AX0_chooseNext (d + 1) Q 102 [lR 69, lI x1, lI x2, lI x3, lI (s1 + s0), lI ((M 71 (ix x3)) + 1), none] [] M)))))))) : AX0_chooseNext (d + 1) Q 56 [lR 69, lI x1, lI x2, lI x3, none, none, none] [.int s0, .int s1] M := by
  refine aw_iadd dX0_chooseNext_56 ?_
  refine aw_istore (L2 := [lR 69, lI x1, lI x2, lI x3, lI (s1 + s0), none, none]) dX0_chooseNext_57 (by decide) rfl ?_
  refine aw_aload_n dX0_chooseNext_59 rfl rfl ?_
  refine aw_getf dX0_chooseNext_60 fl_X0_15 (by decide) ce_69 rfl (v := .ref 71) rfl ?_
  refine aw_iload_n dX0_chooseNext_63 rfl rfl ?_
  obtain ⟨h9, h⟩ := h
  refine aw_iald dX0_chooseNext_64 (by decide) ce_71 h9 ?_
  refine aw_iconst (v := 1) dX0_chooseNext_65 (by decide) ?_
  refine aw_iadd dX0_chooseNext_66 ?_
  refine aw_istore (L2 := [lR 69, lI x1, lI x2, lI x3, lI (s1 + s0), lI ((M 71 (ix x3)) + 1), none]) dX0_chooseNext_67 (by decide) rfl ?_
  refine aw_iload dX0_chooseNext_69 rfl ?_
  refine aw_aload_n dX0_chooseNext_71 rfl rfl ?_
  refine aw_getf dX0_chooseNext_72 fl_X0_9 (by decide) ce_69 rfl (v := .ref 70) rfl ?_
  refine aw_iload_n dX0_chooseNext_75 rfl rfl ?_
  obtain ⟨h9, h⟩ := h
  refine aw_iald dX0_chooseNext_76 (by decide) ce_70 h9 ?_
  refine aw_icmp_lt (tgt := 102) dX0_chooseNext_77 (by decide) (fun z => ?_) (fun z => ?_)
  · replace h := h.1 z
    exact h
  · replace h := h.2 z
    refine aw_iload dX0_chooseNext_80 rfl ?_
    refine aw_aload_n dX0_chooseNext_82 rfl rfl ?_
    refine aw_getf dX0_chooseNext_83 fl_X0_9 (by decide) ce_69 rfl (v := .ref 70) rfl ?_
    refine aw_iload_n dX0_chooseNext_86 rfl rfl ?_
    obtain ⟨h9, h⟩ := h
    refine aw_iald dX0_chooseNext_87 (by decide) ce_70 h9 ?_
    refine aw_icmp_ne (tgt := 106) dX0_chooseNext_88 (by decide) (fun z => ?_) (fun z => ?_)
    · replace h := h.1 z
      exact h
    · replace h := h.2 z
      refine aw_iload dX0_chooseNext_91 rfl ?_
      refine aw_aload_n dX0_chooseNext_93 rfl rfl ?_
      refine aw_getf dX0_chooseNext_94 fl_X0_15 (by decide) ce_69 rfl (v := .ref 71) rfl ?_
      refine aw_iload_n dX0_chooseNext_97 rfl rfl ?_
      obtain ⟨h9, h⟩ := h
      refine aw_iald dX0_chooseNext_98 (by decide) ce_71 h9 ?_
      refine aw_icmp_ge (tgt := 106) dX0_chooseNext_99 (by decide) (fun z => ?_) (fun z => ?_)
      · replace h := h.1 z
        exact h
      · replace h := h.2 z
        exact h
theorem bX0_chooseNext_102 {d : Nat} {Q : Option Int32 → Mem → Prop} (M : Mem) (x1 x2 x3 x4 x5 : Int32) (h : AX0_chooseNext (d + 1) Q 107 [lR 69, lI x1, lI x2, lI x3, lI x4, lI x5, none] [.int 1] M) : AX0_chooseNext (d + 1) Q 102 [lR 69, lI x1, lI x2, lI x3, lI x4, lI x5, none] [] M := by
  refine aw_iconst (v := 1) dX0_chooseNext_102 (by decide) ?_
  refine aw_goto (tgt := 107) dX0_chooseNext_103 (by decide) ?_
  exact h
theorem bX0_chooseNext_106 {d : Nat} {Q : Option Int32 → Mem → Prop} (M : Mem) (x1 x2 x3 x4 x5 : Int32) (h : AX0_chooseNext (d + 1) Q 107 [lR 69, lI x1, lI x2, lI x3, lI x4, lI x5, none] [.int 0] M) : AX0_chooseNext (d + 1) Q 106 [lR 69, lI x1, lI x2, lI x3, lI x4, lI x5, none] [] M := by
  refine aw_iconst (v := 0) dX0_chooseNext_106 (by decide) ?_
  exact h
theorem bX0_chooseNext_107 {d : Nat} {Q : Option Int32 → Mem → Prop} (M : Mem) (x1 x2 x3 x4 x5 s0 : Int32) (h : (vp_in x1 16) ∧ (((M 71 (ix x1)) = 0 → AX0_chooseNext (d + 1) Q 123 [lR 69, lI x1, lI x2, lI x3, lI x4, lI x5, none] [] M) ∧ (¬ (M 71 (ix x1)) = 0 → (s0 = 0 → AX0_chooseNext (d + 1) Q 2 [lR 69, lI x1, lI x2, lI (x3 + 1), none, none, none] [] M) ∧ (¬ s0 = 0 → AX0_chooseNext (d + 1) Q 123 [lR 69, lI x1, lI x2, lI x3, lI x4, lI x5, none] [] M)))) : AX0_chooseNext (d + 1) Q 107 [lR 69, lI x1, lI x2, lI x3, lI x4, lI x5, none] [.int s0] M := by
  refine aw_istore (L2 := [lR 69, lI x1, lI x2, lI x3, lI x4, lI x5, lI s0]) dX0_chooseNext_107 (by decide) rfl ?_
  refine aw_aload_n dX0_chooseNext_109 rfl rfl ?_
  refine aw_getf dX0_chooseNext_110 fl_X0_15 (by decide) ce_69 rfl (v := .ref 71) rfl ?_
  refine aw_iload_n dX0_chooseNext_113 rfl rfl ?_
  obtain ⟨h9, h⟩ := h
  refine aw_iald dX0_chooseNext_114 (by decide) ce_71 h9 ?_
  refine aw_if_eq (tgt := 123) dX0_chooseNext_115 (by decide) (fun z => ?_) (fun z => ?_)
  · replace h := h.1 z
    exact aw_less (less_k (less_k (less_k (less_k (less_k (less_k (less_d less_nil))))))) h
  · replace h := h.2 z
    refine aw_iload dX0_chooseNext_118 rfl ?_
    refine aw_if_eq (tgt := 146) dX0_chooseNext_120 (by decide) (fun z => ?_) (fun z => ?_)
    · replace h := h.1 z
      refine aw_iinc (y := 1) (L2 := [lR 69, lI x1, lI x2, lI (x3 + 1), lI x4, lI x5, lI s0]) dX0_chooseNext_146 rfl (by decide) (by decide) rfl ?_
      refine aw_goto (tgt := 2) dX0_chooseNext_149 (by decide) ?_
      exact aw_less (less_k (less_k (less_k (less_k (less_d (less_d (less_d less_nil))))))) h
    · replace h := h.2 z
      exact aw_less (less_k (less_k (less_k (less_k (less_k (less_k (less_d less_nil))))))) h
theorem bX0_chooseNext_123 {d : Nat} {Q : Option Int32 → Mem → Prop} (M : Mem) (x1 x2 x3 x4 x5 : Int32) (h : (vp_in x1 16) ∧ ((vp_in x1 16) ∧ ((vp_in x1 16) ∧ (AX0_chooseNext (d + 1) Q 2 [lR 69, lI x1, lI x2, lI (x3 + 1), none, none, none] [] (wr (wr (wr M 70 (ix x1) x4) 71 (ix x1) x5) 72 (ix x1) x3))))) : AX0_chooseNext (d + 1) Q 123 [lR 69, lI x1, lI x2, lI x3, lI x4, lI x5, none] [] M := by
  refine aw_aload_n dX0_chooseNext_123 rfl rfl ?_
  refine aw_getf dX0_chooseNext_124 fl_X0_9 (by decide) ce_69 rfl (v := .ref 70) rfl ?_
  refine aw_iload_n dX0_chooseNext_127 rfl rfl ?_
  refine aw_iload dX0_chooseNext_128 rfl ?_
  obtain ⟨h9, h⟩ := h
  refine aw_iast dX0_chooseNext_130 (by decide) ce_70 h9 ?_
  refine aw_aload_n dX0_chooseNext_131 rfl rfl ?_
  refine aw_getf dX0_chooseNext_132 fl_X0_15 (by decide) ce_69 rfl (v := .ref 71) rfl ?_
  refine aw_iload_n dX0_chooseNext_135 rfl rfl ?_
  refine aw_iload dX0_chooseNext_136 rfl ?_
  obtain ⟨h9, h⟩ := h
  refine aw_iast dX0_chooseNext_138 (by decide) ce_71 h9 ?_
  refine aw_aload_n dX0_chooseNext_139 rfl rfl ?_
  refine aw_getf dX0_chooseNext_140 fl_X0_18 (by decide) ce_69 rfl (v := .ref 72) rfl ?_
  refine aw_iload_n dX0_chooseNext_143 rfl rfl ?_
  refine aw_iload_n dX0_chooseNext_144 rfl rfl ?_
  obtain ⟨h9, h⟩ := h
  refine aw_iast dX0_chooseNext_145 (by decide) ce_72 h9 ?_
  refine aw_iinc (y := 1) (L2 := [lR 69, lI x1, lI x2, lI (x3 + 1), lI x4, lI x5, none]) dX0_chooseNext_146 rfl (by decide) (by decide) rfl ?_
  refine aw_goto (tgt := 2) dX0_chooseNext_149 (by decide) ?_
  exact aw_less (less_k (less_k (less_k (less_k (less_d (less_d (less_k less_nil))))))) h
abbrev AX0_search (d : Nat) (Q : Option Int32 → Mem → Prop) (pc : Nat) (L : List (Option Value)) (st : List Value) (M : Mem) : Prop := AW none RX0 cX0_search 5 (some .boolean) d Q pc L st M
theorem eX0_search {d : Nat} {Q : Option Int32 → Mem → Prop} (M : Mem) (x1 x2 : Int32) (h : AX0_search d Q 0 [lR 69, lI x1, lI x2, none, none] [] M) : AM d iX0_search [.ref 69, .int x1, .int x2] M Q := AM.of2 (by decide) rfl rfl h
theorem bX0_search_0 {d : Nat} {Q : Option Int32 → Mem → Prop} (M : Mem) (x1 x2 : Int32) (h : AX0_search (d + 1) Q 7 [lR 69, lI x1, lI x2, lI 0, none] [] (wr M 69 4 x1)) : AX0_search (d + 1) Q 0 [lR 69, lI x1, lI x2, none, none] [] M := by
  refine aw_aload_n dX0_search_0 rfl rfl ?_
  refine aw_iload_n dX0_search_1 rfl rfl ?_
  refine aw_putf dX0_search_2 fp_X0_25 (by decide) ce_69 rfl rfl rfl ?_
  refine aw_iconst (v := 0) dX0_search_5 (by decide) ?_
  refine aw_istore_n (L2 := [lR 69, lI x1, lI x2, lI 0, none]) dX0_search_6 rfl (by decide) rfl ?_
  exact h
theorem bX0_search_7 {d : Nat} {Q : Option Int32 → Mem → Prop} (M : Mem) (x1 x2 x3 : Int32) (h : (16 ≤ x3 → AX0_search (d + 1) Q 43 [lR 69, lI x1, lI x2, lI ((M 62 7) - 1), none] [] M) ∧ (¬ 16 ≤ x3 → (vp_in x3 16) ∧ ((vp_in x3 16) ∧ (AX0_search (d + 1) Q 7 [lR 69, lI x1, lI x2, lI (x3 + 1), none] [] (wr (wr M 71 (ix x3) 0) 72 (ix x3) (-1)))))) : AX0_search (d + 1) Q 7 [lR 69, lI x1, lI x2, lI x3, none] [] M := by
  refine aw_iload_n dX0_search_7 rfl rfl ?_
  refine aw_bipush (v := 16) dX0_search_8 (by decide) ?_
  refine aw_icmp_ge (tgt := 33) dX0_search_10 (by decide) (fun z => ?_) (fun z => ?_)
  · replace h := h.1 z
    refine aw_aload_n dX0_search_33 rfl rfl ?_
    refine aw_getf dX0_search_34 fl_X0_21 (by decide) ce_69 rfl (v := .ref 62) rfl ?_
    refine aw_getf dX0_search_37 fl_X0_29 (by decide) ce_62 rfl (v := .int (M 62 7)) rfl ?_
    refine aw_iconst (v := 1) dX0_search_40 (by decide) ?_
    refine aw_isub dX0_search_41 ?_
    refine aw_istore_n (L2 := [lR 69, lI x1, lI x2, lI ((M 62 7) - 1), none]) dX0_search_42 rfl (by decide) rfl ?_
    exact h
  · replace h := h.2 z
    refine aw_aload_n dX0_search_13 rfl rfl ?_
    refine aw_getf dX0_search_14 fl_X0_15 (by decide) ce_69 rfl (v := .ref 71) rfl ?_
    refine aw_iload_n dX0_search_17 rfl rfl ?_
    refine aw_iconst (v := 0) dX0_search_18 (by decide) ?_
    obtain ⟨h9, h⟩ := h
    refine aw_iast dX0_search_19 (by decide) ce_71 h9 ?_
    refine aw_aload_n dX0_search_20 rfl rfl ?_
    refine aw_getf dX0_search_21 fl_X0_18 (by decide) ce_69 rfl (v := .ref 72) rfl ?_
    refine aw_iload_n dX0_search_24 rfl rfl ?_
    refine aw_iconst (v := (-1)) dX0_search_25 (by decide) ?_
    obtain ⟨h9, h⟩ := h
    refine aw_iast dX0_search_26 (by decide) ce_72 h9 ?_
    refine aw_iinc (y := 1) (L2 := [lR 69, lI x1, lI x2, lI (x3 + 1), none]) dX0_search_27 rfl (by decide) (by decide) rfl ?_
    refine aw_goto (tgt := 7) dX0_search_30 (by decide) ?_
    exact h
theorem bX0_search_43 {d : Nat} {Q : Option Int32 → Mem → Prop} (M : Mem) (x1 x2 x3 : Int32) (h : (x3 < 0 → (vp_in x1 16) ∧ (((M 71 (ix x1)) ≤ 0 → Q (some 0) M) ∧ (¬ (M 71 (ix x1)) ≤ 0 → Q (some 1) M))) ∧ (¬ x3 < 0 → (vp_in x3 16) ∧ ((¬ (M 64 (ix x3)) = (M 62 8) → AMv d iX0_chooseNext [.ref 69, .int (M 64 (ix x3)), .int x2] M (fun M1 => AX0_search (d + 1) Q 43 [lR 69, lI x1, lI x2, lI (x3 + (-1)), none] [] M1)) ∧ ((M 64 (ix x3)) = (M 62 8) → (vp_in (M 64 (ix x3)) 16) ∧ ((vp_in (M 64 (ix x3)) 16) ∧ (AX0_search (d + 1) Q 43 [lR 69, lI x1, lI x2, lI (x3 + (-1)), none] [] (wr (wr M 70 (ix (M 64 (ix x3))) 0) 71 (ix (M 64 (ix x3))) 1))))))) : AX0_search (d + 1) Q 43 [lR 69, lI x1, lI x2, lI x3, none] [] M := by
  refine aw_iload_n dX0_search_43 rfl rfl ?_
  refine aw_if_lt (tgt := 102) dX0_search_44 (by decide) (fun z => ?_) (fun z => ?_)
  · replace h := h.1 z
    refine aw_aload_n dX0_search_102 rfl rfl ?_
    refine aw_getf dX0_search_103 fl_X0_15 (by decide) ce_69 rfl (v := .ref 71) rfl ?_
    refine aw_iload_n dX0_search_106 rfl rfl ?_
    obtain ⟨h9, h⟩ := h
    refine aw_iald dX0_search_107 (by decide) ce_71 h9 ?_
    refine aw_if_le (tgt := 115) dX0_search_108 (by decide) (fun z => ?_) (fun z => ?_)
    · replace h := h.1 z
      refine aw_iconst (v := 0) dX0_search_115 (by decide) ?_
      exact aw_iret dX0_search_116 rfl (nar_b (by decide)) h
    · replace h := h.2 z
      refine aw_iconst (v := 1) dX0_search_111 (by decide) ?_
      refine aw_goto (tgt := 116) dX0_search_112 (by decide) ?_
      exact aw_iret dX0_search_116 rfl (nar_b (by decide)) h
  · replace h := h.2 z
    refine aw_aload_n dX0_search_47 rfl rfl ?_
    refine aw_getf dX0_search_48 fl_X0_21 (by decide) ce_69 rfl (v := .ref 62) rfl ?_
    refine aw_getf dX0_search_51 fl_X0_34 (by decide) ce_62 rfl (v := .ref 64) rfl ?_
    refine aw_iload_n dX0_search_54 rfl rfl ?_
    obtain ⟨h9, h⟩ := h
    refine aw_iald dX0_search_55 (by decide) ce_64 h9 ?_
    refine aw_istore (L2 := [lR 69, lI x1, lI x2, lI x3, lI (M 64 (ix x3))]) dX0_search_56 (by decide) rfl ?_
    refine aw_iload dX0_search_58 rfl ?_
    refine aw_aload_n dX0_search_60 rfl rfl ?_
    refine aw_getf dX0_search_61 fl_X0_21 (by decide) ce_69 rfl (v := .ref 62) rfl ?_
    refine aw_getf dX0_search_64 fl_X0_37 (by decide) ce_62 rfl (v := .int (M 62 8)) rfl ?_
    refine aw_icmp_ne (tgt := 89) dX0_search_67 (by decide) (fun z => ?_) (fun z => ?_)
    · replace h := h.1 z
      refine aw_aload_n dX0_search_89 rfl rfl ?_
      refine aw_iload dX0_search_90 rfl ?_
      refine aw_iload_n dX0_search_92 rfl rfl ?_
      refine aw_callV (mi := iX0_chooseNext) (av := [.int (M 64 (ix x3)), .int x2]) (st := []) dX0_search_93 ml_X0_40 kX0_chooseNext (by decide) ce_69 clX0 rfl rfl rfl (Nat.le_of_ble_eq_true rfl) (AM.mono h (fun r9 M1 h => ?_))
      obtain ⟨rfl, h⟩ := h
      refine aw_iinc (y := (-1)) (L2 := [lR 69, lI x1, lI x2, lI (x3 + (-1)), lI (M 64 (ix x3))]) dX0_search_96 rfl (by decide) (by decide) rfl ?_
      refine aw_goto (tgt := 43) dX0_search_99 (by decide) ?_
      exact aw_less (less_k (less_k (less_k (less_k (less_d less_nil))))) h
    · replace h := h.2 z
      refine aw_aload_n dX0_search_70 rfl rfl ?_
      refine aw_getf dX0_search_71 fl_X0_9 (by decide) ce_69 rfl (v := .ref 70) rfl ?_
      refine aw_iload dX0_search_74 rfl ?_
      refine aw_iconst (v := 0) dX0_search_76 (by decide) ?_
      obtain ⟨h9, h⟩ := h
      refine aw_iast dX0_search_77 (by decide) ce_70 h9 ?_
      refine aw_aload_n dX0_search_78 rfl rfl ?_
      refine aw_getf dX0_search_79 fl_X0_15 (by decide) ce_69 rfl (v := .ref 71) rfl ?_
      refine aw_iload dX0_search_82 rfl ?_
      refine aw_iconst (v := 1) dX0_search_84 (by decide) ?_
      obtain ⟨h9, h⟩ := h
      refine aw_iast dX0_search_85 (by decide) ce_71 h9 ?_
      refine aw_goto (tgt := 96) dX0_search_86 (by decide) ?_
      refine aw_iinc (y := (-1)) (L2 := [lR 69, lI x1, lI x2, lI (x3 + (-1)), lI (M 64 (ix x3))]) dX0_search_96 rfl (by decide) (by decide) rfl ?_
      refine aw_goto (tgt := 43) dX0_search_99 (by decide) ?_
      exact aw_less (less_k (less_k (less_k (less_k (less_d less_nil))))) h
abbrev AX0_leastPrice (d : Nat) (Q : Option Int32 → Mem → Prop) (pc : Nat) (L : List (Option Value)) (st : List Value) (M : Mem) : Prop := AW none RX0 cX0_leastPrice 1 (some .int) d Q pc L st M
theorem eX0_leastPrice {d : Nat} {Q : Option Int32 → Mem → Prop} (M : Mem) (h : AX0_leastPrice d Q 0 [lR 69] [] M) : AM d iX0_leastPrice [.ref 69] M Q := AM.of2 (by decide) rfl rfl h
theorem bX0_leastPrice_0 {d : Nat} {Q : Option Int32 → Mem → Prop} (M : Mem) (h : (vp_in (M 69 4) 16) ∧ (Q (some (M 70 (ix (M 69 4)))) M)) : AX0_leastPrice d Q 0 [lR 69] [] M := by
  refine aw_aload_n dX0_leastPrice_0 rfl rfl ?_
  refine aw_getf dX0_leastPrice_1 fl_X0_9 (by decide) ce_69 rfl (v := .ref 70) rfl ?_
  refine aw_aload_n dX0_leastPrice_4 rfl rfl ?_
  refine aw_getf dX0_leastPrice_5 fl_X0_25 (by decide) ce_69 rfl (v := .int (M 69 4)) rfl ?_
  obtain ⟨h9, h⟩ := h
  refine aw_iald dX0_leastPrice_8 (by decide) ce_70 h9 ?_
  exact aw_iret dX0_leastPrice_9 rfl rfl h
abbrev AX0_length (d : Nat) (Q : Option Int32 → Mem → Prop) (pc : Nat) (L : List (Option Value)) (st : List Value) (M : Mem) : Prop := AW none RX0 cX0_length 1 (some .int) d Q pc L st M
theorem eX0_length {d : Nat} {Q : Option Int32 → Mem → Prop} (M : Mem) (h : AX0_length d Q 0 [lR 69] [] M) : AM d iX0_length [.ref 69] M Q := AM.of2 (by decide) rfl rfl h
theorem bX0_length_0 {d : Nat} {Q : Option Int32 → Mem → Prop} (M : Mem) (h : (vp_in (M 69 4) 16) ∧ (Q (some (M 71 (ix (M 69 4)))) M)) : AX0_length d Q 0 [lR 69] [] M := by
  refine aw_aload_n dX0_length_0 rfl rfl ?_
  refine aw_getf dX0_length_1 fl_X0_15 (by decide) ce_69 rfl (v := .ref 71) rfl ?_
  refine aw_aload_n dX0_length_4 rfl rfl ?_
  refine aw_getf dX0_length_5 fl_X0_25 (by decide) ce_69 rfl (v := .int (M 69 4)) rfl ?_
  obtain ⟨h9, h⟩ := h
  refine aw_iald dX0_length_8 (by decide) ce_71 h9 ?_
  exact aw_iret dX0_length_9 rfl rfl h
abbrev AX0_personAt (d : Nat) (Q : Option Int32 → Mem → Prop) (pc : Nat) (L : List (Option Value)) (st : List Value) (M : Mem) : Prop := AW none RX0 cX0_personAt 4 (some .int) d Q pc L st M
theorem eX0_personAt {d : Nat} {Q : Option Int32 → Mem → Prop} (M : Mem) (x1 : Int32) (h : AX0_personAt d Q 0 [lR 69, lI x1, none, none] [] M) : AM d iX0_personAt [.ref 69, .int x1] M Q := AM.of2 (by decide) rfl rfl h
theorem bX0_personAt_0 {d : Nat} {Q : Option Int32 → Mem → Prop} (M : Mem) (x1 : Int32) (h : AX0_personAt d Q 7 [lR 69, lI x1, lI (M 69 4), lI 0] [] M) : AX0_personAt d Q 0 [lR 69, lI x1, none, none] [] M := by
  refine aw_aload_n dX0_personAt_0 rfl rfl ?_
  refine aw_getf dX0_personAt_1 fl_X0_25 (by decide) ce_69 rfl (v := .int (M 69 4)) rfl ?_
  refine aw_istore_n (L2 := [lR 69, lI x1, lI (M 69 4), none]) dX0_personAt_4 rfl (by decide) rfl ?_
  refine aw_iconst (v := 0) dX0_personAt_5 (by decide) ?_
  refine aw_istore_n (L2 := [lR 69, lI x1, lI (M 69 4), lI 0]) dX0_personAt_6 rfl (by decide) rfl ?_
  exact h
theorem bX0_personAt_7 {d : Nat} {Q : Option Int32 → Mem → Prop} (M : Mem) (x1 x2 x3 : Int32) (h : (x1 ≤ x3 → AX0_personAt d Q 30 [none, none, lI x2, none] [] M) ∧ (¬ x1 ≤ x3 → (x2 = (-1) → AX0_personAt d Q 30 [none, none, lI x2, none] [] M) ∧ (¬ x2 = (-1) → (vp_in x2 16) ∧ (AX0_personAt d Q 7 [lR 69, lI x1, lI (M 72 (ix x2)), lI (x3 + 1)] [] M)))) : AX0_personAt d Q 7 [lR 69, lI x1, lI x2, lI x3] [] M := by
  refine aw_iload_n dX0_personAt_7 rfl rfl ?_
  refine aw_iload_n dX0_personAt_8 rfl rfl ?_
  refine aw_icmp_ge (tgt := 30) dX0_personAt_9 (by decide) (fun z => ?_) (fun z => ?_)
  · replace h := h.1 z
    exact aw_less (less_d (less_d (less_k (less_d less_nil)))) h
  · replace h := h.2 z
    refine aw_iload_n dX0_personAt_12 rfl rfl ?_
    refine aw_iconst (v := (-1)) dX0_personAt_13 (by decide) ?_
    refine aw_icmp_eq (tgt := 30) dX0_personAt_14 (by decide) (fun z => ?_) (fun z => ?_)
    · replace h := h.1 z
      exact aw_less (less_d (less_d (less_k (less_d less_nil)))) h
    · replace h := h.2 z
      refine aw_aload_n dX0_personAt_17 rfl rfl ?_
      refine aw_getf dX0_personAt_18 fl_X0_18 (by decide) ce_69 rfl (v := .ref 72) rfl ?_
      refine aw_iload_n dX0_personAt_21 rfl rfl ?_
      obtain ⟨h9, h⟩ := h
      refine aw_iald dX0_personAt_22 (by decide) ce_72 h9 ?_
      refine aw_istore_n (L2 := [lR 69, lI x1, lI (M 72 (ix x2)), lI x3]) dX0_personAt_23 rfl (by decide) rfl ?_
      refine aw_iinc (y := 1) (L2 := [lR 69, lI x1, lI (M 72 (ix x2)), lI (x3 + 1)]) dX0_personAt_24 rfl (by decide) (by decide) rfl ?_
      refine aw_goto (tgt := 7) dX0_personAt_27 (by decide) ?_
      exact h
theorem bX0_personAt_30 {d : Nat} {Q : Option Int32 → Mem → Prop} (M : Mem) (x2 : Int32) (h : (¬ x2 = (-1) → Q (some x2) M) ∧ (x2 = (-1) → Q (some (-3)) M)) : AX0_personAt d Q 30 [none, none, lI x2, none] [] M := by
  refine aw_iload_n dX0_personAt_30 rfl rfl ?_
  refine aw_iconst (v := (-1)) dX0_personAt_31 (by decide) ?_
  refine aw_icmp_ne (tgt := 40) dX0_personAt_32 (by decide) (fun z => ?_) (fun z => ?_)
  · replace h := h.1 z
    refine aw_iload_n dX0_personAt_40 rfl rfl ?_
    exact aw_iret dX0_personAt_41 rfl rfl h
  · replace h := h.2 z
    refine aw_bipush (v := (-3)) dX0_personAt_35 (by decide) ?_
    refine aw_goto (tgt := 41) dX0_personAt_37 (by decide) ?_
    exact aw_iret dX0_personAt_41 rfl rfl h
abbrev AX5_whoCouldSwear (d : Nat) (Q : Option Int32 → Mem → Prop) (pc : Nat) (L : List (Option Value)) (st : List Value) (M : Mem) : Prop := AW none RX5 cX5_whoCouldSwear 4 (some .int) d Q pc L st M
theorem eX5_whoCouldSwear {d : Nat} {Q : Option Int32 → Mem → Prop} (M : Mem) (x1 : Int32) (h : AX5_whoCouldSwear d Q 0 [lR 73, lI x1, none, none] [] M) : AM d iX5_whoCouldSwear [.ref 73, .int x1] M Q := AM.of2 (by decide) rfl rfl h
theorem bX5_whoCouldSwear_0 {d : Nat} {Q : Option Int32 → Mem → Prop} (M : Mem) (x1 : Int32) (h : AX5_whoCouldSwear (d + 1) Q 4 [lR 73, lI x1, lI 0, lI 0] [] M) : AX5_whoCouldSwear (d + 1) Q 0 [lR 73, lI x1, none, none] [] M := by
  refine aw_iconst (v := 0) dX5_whoCouldSwear_0 (by decide) ?_
  refine aw_istore_n (L2 := [lR 73, lI x1, lI 0, none]) dX5_whoCouldSwear_1 rfl (by decide) rfl ?_
  refine aw_iconst (v := 0) dX5_whoCouldSwear_2 (by decide) ?_
  refine aw_istore_n (L2 := [lR 73, lI x1, lI 0, lI 0]) dX5_whoCouldSwear_3 rfl (by decide) rfl ?_
  exact h
theorem bX5_whoCouldSwear_4 {d : Nat} {Q : Option Int32 → Mem → Prop} (M : Mem) (x1 x2 x3 : Int32) (h : (16 ≤ x3 → Q (some x2) M) ∧ (¬ 16 ≤ x3 → (¬ (hasV x1 x3) = 0 → AX5_whoCouldSwear (d + 1) Q 4 [lR 73, lI x1, lI x2, lI (x3 + 1)] [] M) ∧ ((hasV x1 x3) = 0 → (vp_in x3 16) ∧ (((M 65 (ix x3)) = 0 → AX5_whoCouldSwear (d + 1) Q 4 [lR 73, lI x1, lI x2, lI (x3 + 1)] [] M) ∧ (¬ (M 65 (ix x3)) = 0 → AX5_whoCouldSwear (d + 1) Q 4 [lR 73, lI x1, lI (x2 ||| ((1 : Int32) <<< (x3 &&& 31))), lI (x3 + 1)] [] M))))) : AX5_whoCouldSwear (d + 1) Q 4 [lR 73, lI x1, lI x2, lI x3] [] M := by
  refine aw_iload_n dX5_whoCouldSwear_4 rfl rfl ?_
  refine aw_bipush (v := 16) dX5_whoCouldSwear_5 (by decide) ?_
  refine aw_icmp_ge (tgt := 42) dX5_whoCouldSwear_7 (by decide) (fun z => ?_) (fun z => ?_)
  · replace h := h.1 z
    refine aw_iload_n dX5_whoCouldSwear_42 rfl rfl ?_
    exact aw_iret dX5_whoCouldSwear_43 rfl rfl h
  · replace h := h.2 z
    refine aw_iload_n dX5_whoCouldSwear_10 rfl rfl ?_
    refine aw_iload_n dX5_whoCouldSwear_11 rfl rfl ?_
    refine aw_callN (mi := iX9_has) (av := [.int x1, .int x3]) (st := []) dX5_whoCouldSwear_12 (host := "TallerWitness") (by decide) kX9_has rfl rfl (Nat.le_of_ble_eq_true rfl) (AM.mono (p_X9_has _ _) (fun r9 M9 e9 => ?_))
    obtain ⟨rfl, rfl⟩ := e9
    refine aw_if_ne (tgt := 36) dX5_whoCouldSwear_15 (by decide) (fun z => ?_) (fun z => ?_)
    · replace h := h.1 z
      refine aw_iinc (y := 1) (L2 := [lR 73, lI x1, lI x2, lI (x3 + 1)]) dX5_whoCouldSwear_36 rfl (by decide) (by decide) rfl ?_
      refine aw_goto (tgt := 4) dX5_whoCouldSwear_39 (by decide) ?_
      exact h
    · replace h := h.2 z
      refine aw_aload_n dX5_whoCouldSwear_18 rfl rfl ?_
      refine aw_getf dX5_whoCouldSwear_19 fl_X5_9 (by decide) ce_73 rfl (v := .ref 62) rfl ?_
      refine aw_getf dX5_whoCouldSwear_22 fl_X5_58 (by decide) ce_62 rfl (v := .ref 65) rfl ?_
      refine aw_iload_n dX5_whoCouldSwear_25 rfl rfl ?_
      obtain ⟨h9, h⟩ := h
      refine aw_iald dX5_whoCouldSwear_26 (by decide) ce_65 h9 ?_
      refine aw_if_eq (tgt := 36) dX5_whoCouldSwear_27 (by decide) (fun z => ?_) (fun z => ?_)
      · replace h := h.1 z
        refine aw_iinc (y := 1) (L2 := [lR 73, lI x1, lI x2, lI (x3 + 1)]) dX5_whoCouldSwear_36 rfl (by decide) (by decide) rfl ?_
        refine aw_goto (tgt := 4) dX5_whoCouldSwear_39 (by decide) ?_
        exact h
      · replace h := h.2 z
        refine aw_iload_n dX5_whoCouldSwear_30 rfl rfl ?_
        refine aw_iconst (v := 1) dX5_whoCouldSwear_31 (by decide) ?_
        refine aw_iload_n dX5_whoCouldSwear_32 rfl rfl ?_
        refine aw_ishl dX5_whoCouldSwear_33 ?_
        refine aw_ior dX5_whoCouldSwear_34 ?_
        refine aw_istore_n (L2 := [lR 73, lI x1, lI (x2 ||| ((1 : Int32) <<< (x3 &&& 31))), lI x3]) dX5_whoCouldSwear_35 rfl (by decide) rfl ?_
        refine aw_iinc (y := 1) (L2 := [lR 73, lI x1, lI (x2 ||| ((1 : Int32) <<< (x3 &&& 31))), lI (x3 + 1)]) dX5_whoCouldSwear_36 rfl (by decide) (by decide) rfl ?_
        refine aw_goto (tgt := 4) dX5_whoCouldSwear_39 (by decide) ?_
        exact h
abbrev AX5_isBetter (d : Nat) (Q : Option Int32 → Mem → Prop) (pc : Nat) (L : List (Option Value)) (st : List Value) (M : Mem) : Prop := AW none RX5 cX5_isBetter 3 (some .boolean) d Q pc L st M
theorem eX5_isBetter {d : Nat} {Q : Option Int32 → Mem → Prop} (M : Mem) (x1 x2 : Int32) (h : AX5_isBetter d Q 0 [lR 73, lI x1, lI x2] [] M) : AM d iX5_isBetter [.ref 73, .int x1, .int x2] M Q := AM.of2 (by decide) rfl rfl h
theorem bX5_isBetter_0 {d : Nat} {Q : Option Int32 → Mem → Prop} (M : Mem) (x1 x2 : Int32) (h : ((M 73 1) = 0 → Q (some 1) M) ∧ (¬ (M 73 1) = 0 → ((M 73 3) ≤ x1 → (¬ x1 = (M 73 3) → Q (some 0) M) ∧ (x1 = (M 73 3) → ((M 73 2) ≤ (bcV x2) → Q (some 0) M) ∧ (¬ (M 73 2) ≤ (bcV x2) → Q (some 1) M))) ∧ (¬ (M 73 3) ≤ x1 → Q (some 1) M))) : AX5_isBetter (d + 1) Q 0 [lR 73, lI x1, lI x2] [] M := by
  refine aw_aload_n dX5_isBetter_0 rfl rfl ?_
  refine aw_getf dX5_isBetter_1 fl_X5_15 (by decide) ce_73 rfl (v := .int (M 73 1)) rfl ?_
  refine aw_if_eq (tgt := 15) dX5_isBetter_4 (by decide) (fun z => ?_) (fun z => ?_)
  · replace h := h.1 z
    refine aw_iconst (v := 1) dX5_isBetter_15 (by decide) ?_
    exact aw_iret dX5_isBetter_16 rfl (nar_b (by decide)) h
  · replace h := h.2 z
    refine aw_iload_n dX5_isBetter_7 rfl rfl ?_
    refine aw_aload_n dX5_isBetter_8 rfl rfl ?_
    refine aw_getf dX5_isBetter_9 fl_X5_42 (by decide) ce_73 rfl (v := .int (M 73 3)) rfl ?_
    refine aw_icmp_ge (tgt := 17) dX5_isBetter_12 (by decide) (fun z => ?_) (fun z => ?_)
    · replace h := h.1 z
      refine aw_iload_n dX5_isBetter_17 rfl rfl ?_
      refine aw_aload_n dX5_isBetter_18 rfl rfl ?_
      refine aw_getf dX5_isBetter_19 fl_X5_42 (by decide) ce_73 rfl (v := .int (M 73 3)) rfl ?_
      refine aw_icmp_ne (tgt := 40) dX5_isBetter_22 (by decide) (fun z => ?_) (fun z => ?_)
      · replace h := h.1 z
        refine aw_iconst (v := 0) dX5_isBetter_40 (by decide) ?_
        exact aw_iret dX5_isBetter_41 rfl (nar_b (by decide)) h
      · replace h := h.2 z
        refine aw_iload_n dX5_isBetter_25 rfl rfl ?_
        refine aw_callS (mi := iJ6_bitCount_0f7a4) (av := [.int x2]) (st := []) dX5_isBetter_26 ml_X5_23 kJ6_bitCount_0f7a4 rfl rfl (Nat.le_of_ble_eq_true rfl) (AM.mono (p_J6_bitCount _) (fun r9 M9 e9 => ?_))
        obtain ⟨rfl, rfl⟩ := e9
        refine aw_aload_n dX5_isBetter_29 rfl rfl ?_
        refine aw_getf dX5_isBetter_30 fl_X5_46 (by decide) ce_73 rfl (v := .int (M 73 2)) rfl ?_
        refine aw_icmp_ge (tgt := 40) dX5_isBetter_33 (by decide) (fun z => ?_) (fun z => ?_)
        · replace h := h.1 z
          refine aw_iconst (v := 0) dX5_isBetter_40 (by decide) ?_
          exact aw_iret dX5_isBetter_41 rfl (nar_b (by decide)) h
        · replace h := h.2 z
          refine aw_iconst (v := 1) dX5_isBetter_36 (by decide) ?_
          refine aw_goto (tgt := 41) dX5_isBetter_37 (by decide) ?_
          exact aw_iret dX5_isBetter_41 rfl (nar_b (by decide)) h
    · replace h := h.2 z
      refine aw_iconst (v := 1) dX5_isBetter_15 (by decide) ?_
      exact aw_iret dX5_isBetter_16 rfl (nar_b (by decide)) h
abbrev AX5_priceOfAll (d : Nat) (Q : Option Int32 → Mem → Prop) (pc : Nat) (L : List (Option Value)) (st : List Value) (M : Mem) : Prop := AW none RX5 cX5_priceOfAll 6 (some .int) d Q pc L st M
theorem eX5_priceOfAll {d : Nat} {Q : Option Int32 → Mem → Prop} (M : Mem) (x1 x2 : Int32) (h : AX5_priceOfAll d Q 0 [lR 73, lI x1, lI x2, none, none, none] [] M) : AM d iX5_priceOfAll [.ref 73, .int x1, .int x2] M Q := AM.of2 (by decide) rfl rfl h
theorem bX5_priceOfAll_0 {d : Nat} {Q : Option Int32 → Mem → Prop} (M : Mem) (x1 x2 : Int32) (h : AX5_priceOfAll (d + 1) Q 5 [lR 73, lI x1, lI x2, lI 0, lI 0, none] [] M) : AX5_priceOfAll (d + 1) Q 0 [lR 73, lI x1, lI x2, none, none, none] [] M := by
  refine aw_iconst (v := 0) dX5_priceOfAll_0 (by decide) ?_
  refine aw_istore_n (L2 := [lR 73, lI x1, lI x2, lI 0, none, none]) dX5_priceOfAll_1 rfl (by decide) rfl ?_
  refine aw_iconst (v := 0) dX5_priceOfAll_2 (by decide) ?_
  refine aw_istore (L2 := [lR 73, lI x1, lI x2, lI 0, lI 0, none]) dX5_priceOfAll_3 (by decide) rfl ?_
  exact h
theorem bX5_priceOfAll_5 {d : Nat} {Q : Option Int32 → Mem → Prop} (M : Mem) (x1 x2 x3 x4 : Int32) (h : (16 ≤ x4 → Q (some x3) M) ∧ (¬ 16 ≤ x4 → ((hasV x1 x4) = 0 → AX5_priceOfAll (d + 1) Q 5 [lR 73, lI x1, lI x2, lI x3, lI (x4 + 1), none] [] M) ∧ (¬ (hasV x1 x4) = 0 → AMi d iX6_leastAsked [.ref 62, .int (x2 ||| x1), .int x4] M (fun r1 M1 => (¬ r1 = (-1) → AX5_priceOfAll (d + 1) Q 5 [lR 73, lI x1, lI x2, lI (x3 + r1), lI (x4 + 1), none] [] M1) ∧ (r1 = (-1) → Q (some (-1)) M1))))) : AX5_priceOfAll (d + 1) Q 5 [lR 73, lI x1, lI x2, lI x3, lI x4, none] [] M := by
  refine aw_iload dX5_priceOfAll_5 rfl ?_
  refine aw_bipush (v := 16) dX5_priceOfAll_7 (by decide) ?_
  refine aw_icmp_ge (tgt := 54) dX5_priceOfAll_9 (by decide) (fun z => ?_) (fun z => ?_)
  · replace h := h.1 z
    refine aw_iload_n dX5_priceOfAll_54 rfl rfl ?_
    exact aw_iret dX5_priceOfAll_55 rfl rfl h
  · replace h := h.2 z
    refine aw_iload_n dX5_priceOfAll_12 rfl rfl ?_
    refine aw_iload dX5_priceOfAll_13 rfl ?_
    refine aw_callN (mi := iX9_has) (av := [.int x1, .int x4]) (st := []) dX5_priceOfAll_15 (host := "TallerWitness") (by decide) kX9_has rfl rfl (Nat.le_of_ble_eq_true rfl) (AM.mono (p_X9_has _ _) (fun r9 M9 e9 => ?_))
    obtain ⟨rfl, rfl⟩ := e9
    refine aw_if_eq (tgt := 48) dX5_priceOfAll_18 (by decide) (fun z => ?_) (fun z => ?_)
    · replace h := h.1 z
      refine aw_iinc (y := 1) (L2 := [lR 73, lI x1, lI x2, lI x3, lI (x4 + 1), none]) dX5_priceOfAll_48 rfl (by decide) (by decide) rfl ?_
      refine aw_goto (tgt := 5) dX5_priceOfAll_51 (by decide) ?_
      exact h
    · replace h := h.2 z
      refine aw_aload_n dX5_priceOfAll_21 rfl rfl ?_
      refine aw_getf dX5_priceOfAll_22 fl_X5_9 (by decide) ce_73 rfl (v := .ref 62) rfl ?_
      refine aw_iload_n dX5_priceOfAll_25 rfl rfl ?_
      refine aw_iload_n dX5_priceOfAll_26 rfl rfl ?_
      refine aw_ior dX5_priceOfAll_27 ?_
      refine aw_iload dX5_priceOfAll_28 rfl ?_
      refine aw_callV (mi := iX6_leastAsked) (av := [.int (x2 ||| x1), .int x4]) (st := []) dX5_priceOfAll_30 ml_X5_62 kX6_leastAsked (by decide) ce_62 clX6 rfl rfl rfl (Nat.le_of_ble_eq_true rfl) (AM.mono h (fun r9 M1 h => ?_))
      obtain ⟨r1, rfl, h⟩ := h
      refine aw_istore (L2 := [lR 73, lI x1, lI x2, lI x3, lI x4, lI r1]) dX5_priceOfAll_33 (by decide) rfl ?_
      refine aw_iload dX5_priceOfAll_35 rfl ?_
      refine aw_iconst (v := (-1)) dX5_priceOfAll_37 (by decide) ?_
      refine aw_icmp_ne (tgt := 43) dX5_priceOfAll_38 (by decide) (fun z => ?_) (fun z => ?_)
      · replace h := h.1 z
        refine aw_iload_n dX5_priceOfAll_43 rfl rfl ?_
        refine aw_iload dX5_priceOfAll_44 rfl ?_
        refine aw_iadd dX5_priceOfAll_46 ?_
        refine aw_istore_n (L2 := [lR 73, lI x1, lI x2, lI (x3 + r1), lI x4, lI r1]) dX5_priceOfAll_47 rfl (by decide) rfl ?_
        refine aw_iinc (y := 1) (L2 := [lR 73, lI x1, lI x2, lI (x3 + r1), lI (x4 + 1), lI r1]) dX5_priceOfAll_48 rfl (by decide) (by decide) rfl ?_
        refine aw_goto (tgt := 5) dX5_priceOfAll_51 (by decide) ?_
        exact aw_less (less_k (less_k (less_k (less_k (less_k (less_d less_nil)))))) h
      · replace h := h.2 z
        refine aw_iconst (v := (-1)) dX5_priceOfAll_41 (by decide) ?_
        exact aw_iret dX5_priceOfAll_42 rfl rfl h
abbrev AX5_search (d : Nat) (Q : Option Int32 → Mem → Prop) (pc : Nat) (L : List (Option Value)) (st : List Value) (M : Mem) : Prop := AW none RX5 cX5_search 8 (some .boolean) d Q pc L st M
theorem eX5_search {d : Nat} {Q : Option Int32 → Mem → Prop} (M : Mem) (x1 x2 x3 : Int32) (h : AX5_search d Q 0 [lR 73, lI x1, lI x2, lI x3, none, none, none, none] [] M) : AM d iX5_search [.ref 73, .int x1, .int x2, .int x3] M Q := AM.of2 (by decide) rfl rfl h
theorem bX5_search_0 {d : Nat} {Q : Option Int32 → Mem → Prop} (M : Mem) (x1 x2 x3 : Int32) (h : AMi d iX5_whoCouldSwear [.ref 73, .int x2] (wr M 73 1 0) (fun r1 M1 => AX5_search (d + 1) Q 18 [lR 73, lI x1, lI x2, lI x3, lI r1, lI 0, lI 0, none] [] M1)) : AX5_search (d + 1) Q 0 [lR 73, lI x1, lI x2, lI x3, none, none, none, none] [] M := by
  refine aw_aload_n dX5_search_0 rfl rfl ?_
  refine aw_iconst (v := 0) dX5_search_1 (by decide) ?_
  refine aw_putf dX5_search_2 fp_X5_15 (by decide) ce_73 rfl (nar_b (by decide)) (fit_b (by decide)) ?_
  refine aw_aload_n dX5_search_5 rfl rfl ?_
  refine aw_iload_n dX5_search_6 rfl rfl ?_
  refine aw_callV (mi := iX5_whoCouldSwear) (av := [.int x2]) (st := []) dX5_search_7 ml_X5_19 kX5_whoCouldSwear (by decide) ce_73 clX5 rfl rfl rfl (Nat.le_of_ble_eq_true rfl) (AM.mono h (fun r9 M1 h => ?_))
  obtain ⟨r1, rfl, h⟩ := h
  refine aw_istore (L2 := [lR 73, lI x1, lI x2, lI x3, lI r1, none, none, none]) dX5_search_10 (by decide) rfl ?_
  refine aw_iconst (v := 0) dX5_search_12 (by decide) ?_
  refine aw_istore (L2 := [lR 73, lI x1, lI x2, lI x3, lI r1, lI 0, none, none]) dX5_search_13 (by decide) rfl ?_
  refine aw_iconst (v := 0) dX5_search_15 (by decide) ?_
  refine aw_istore (L2 := [lR 73, lI x1, lI x2, lI x3, lI r1, lI 0, lI 0, none]) dX5_search_16 (by decide) rfl ?_
  exact h
theorem bX5_search_18 {d : Nat} {Q : Option Int32 → Mem → Prop} (M : Mem) (x1 x2 x3 x4 x5 x6 : Int32) (h : (((1 : Int32) <<< ((bcV x4) &&& 31)) ≤ x6 → ((M 73 1) = 0 ∨ (M 73 1) = 1) ∧ Q (some (M 73 1)) M) ∧ (¬ ((1 : Int32) <<< ((bcV x4) &&& 31)) ≤ x6 → (5 < (bcV x5) → AX5_search (d + 1) Q 107 [lR 73, lI x1, lI x2, lI x3, lI x4, lI x5, lI x6, none] [] M) ∧ (¬ 5 < (bcV x5) → AMi d iX5_priceOfAll [.ref 73, .int x5, .int x2] M (fun r1 M1 => (r1 = (-1) → AX5_search (d + 1) Q 107 [lR 73, lI x1, lI x2, lI x3, lI x4, lI x5, lI x6, none] [] M1) ∧ (¬ r1 = (-1) → AMi d iX5_isBetter [.ref 73, .int r1, .int x5] M1 (fun r2 M2 => (r2 = 0 → AX5_search (d + 1) Q 107 [lR 73, lI x1, lI x2, lI x3, lI x4, lI x5, lI x6, none] [] M2) ∧ (¬ r2 = 0 → AMi d iX6_outlasts [.ref 62, .int x1, .int (x2 ||| x5), .int x3] M2 (fun r3 M3 => (r3 = 0 → AX5_search (d + 1) Q 107 [lR 73, lI x1, lI x2, lI x3, lI x4, lI x5, lI x6, none] [] M3) ∧ (¬ r3 = 0 → AX5_search (d + 1) Q 107 [lR 73, lI x1, lI x2, lI x3, lI x4, lI x5, lI x6, none] [] (wr (wr (wr (wr M3 73 1 1) 73 3 r1) 73 2 (bcV x5)) 73 4 x5)))))))))) : AX5_search (d + 1) Q 18 [lR 73, lI x1, lI x2, lI x3, lI x4, lI x5, lI x6, none] [] M := by
  refine aw_iload dX5_search_18 rfl ?_
  refine aw_iconst (v := 1) dX5_search_20 (by decide) ?_
  refine aw_iload dX5_search_21 rfl ?_
  refine aw_callS (mi := iJ6_bitCount_0f7a4) (av := [.int x4]) (st := [.int 1, .int x6]) dX5_search_23 ml_X5_23 kJ6_bitCount_0f7a4 rfl rfl (Nat.le_of_ble_eq_true rfl) (AM.mono (p_J6_bitCount _) (fun r9 M9 e9 => ?_))
  obtain ⟨rfl, rfl⟩ := e9
  refine aw_ishl dX5_search_26 ?_
  refine aw_icmp_ge (tgt := 122) dX5_search_27 (by decide) (fun z => ?_) (fun z => ?_)
  · replace h := h.1 z
    refine aw_aload_n dX5_search_122 rfl rfl ?_
    refine aw_getf dX5_search_123 fl_X5_15 (by decide) ce_73 rfl (v := .int (M 73 1)) rfl ?_
    exact aw_iret dX5_search_126 rfl (nar_b h.1) h.2
  · replace h := h.2 z
    refine aw_iload dX5_search_30 rfl ?_
    refine aw_callS (mi := iJ6_bitCount_0f7a4) (av := [.int x5]) (st := []) dX5_search_32 ml_X5_23 kJ6_bitCount_0f7a4 rfl rfl (Nat.le_of_ble_eq_true rfl) (AM.mono (p_J6_bitCount _) (fun r9 M9 e9 => ?_))
    obtain ⟨rfl, rfl⟩ := e9
    refine aw_iconst (v := 5) dX5_search_35 (by decide) ?_
    refine aw_icmp_gt (tgt := 107) dX5_search_36 (by decide) (fun z => ?_) (fun z => ?_)
    · replace h := h.1 z
      exact h
    · replace h := h.2 z
      refine aw_aload_n dX5_search_39 rfl rfl ?_
      refine aw_iload dX5_search_40 rfl ?_
      refine aw_iload_n dX5_search_42 rfl rfl ?_
      refine aw_callV (mi := iX5_priceOfAll) (av := [.int x5, .int x2]) (st := []) dX5_search_43 ml_X5_28 kX5_priceOfAll (by decide) ce_73 clX5 rfl rfl rfl (Nat.le_of_ble_eq_true rfl) (AM.mono h (fun r9 M1 h => ?_))
      obtain ⟨r1, rfl, h⟩ := h
      refine aw_istore (L2 := [lR 73, lI x1, lI x2, lI x3, lI x4, lI x5, lI x6, lI r1]) dX5_search_46 (by decide) rfl ?_
      refine aw_iload dX5_search_48 rfl ?_
      refine aw_iconst (v := (-1)) dX5_search_50 (by decide) ?_
      refine aw_icmp_eq (tgt := 107) dX5_search_51 (by decide) (fun z => ?_) (fun z => ?_)
      · replace h := h.1 z
        exact aw_less (less_k (less_k (less_k (less_k (less_k (less_k (less_k (less_d less_nil)))))))) h
      · replace h := h.2 z
        refine aw_aload_n dX5_search_54 rfl rfl ?_
        refine aw_iload dX5_search_55 rfl ?_
        refine aw_iload dX5_search_57 rfl ?_
        refine aw_callV (mi := iX5_isBetter) (av := [.int r1, .int x5]) (st := []) dX5_search_59 ml_X5_32 kX5_isBetter (by decide) ce_73 clX5 rfl rfl rfl (Nat.le_of_ble_eq_true rfl) (AM.mono h (fun r9 M2 h => ?_))
        obtain ⟨r2, rfl, h⟩ := h
        refine aw_if_eq (tgt := 107) dX5_search_62 (by decide) (fun z => ?_) (fun z => ?_)
        · replace h := h.1 z
          exact aw_less (less_k (less_k (less_k (less_k (less_k (less_k (less_k (less_d less_nil)))))))) h
        · replace h := h.2 z
          refine aw_aload_n dX5_search_65 rfl rfl ?_
          refine aw_getf dX5_search_66 fl_X5_9 (by decide) ce_73 rfl (v := .ref 62) rfl ?_
          refine aw_iload_n dX5_search_69 rfl rfl ?_
          refine aw_iload_n dX5_search_70 rfl rfl ?_
          refine aw_iload dX5_search_71 rfl ?_
          refine aw_ior dX5_search_73 ?_
          refine aw_iload_n dX5_search_74 rfl rfl ?_
          refine aw_callV (mi := iX6_outlasts) (av := [.int x1, .int (x2 ||| x5), .int x3]) (st := []) dX5_search_75 ml_X5_36 kX6_outlasts (by decide) ce_62 clX6 rfl rfl rfl (Nat.le_of_ble_eq_true rfl) (AM.mono h (fun r9 M3 h => ?_))
          obtain ⟨r3, rfl, h⟩ := h
          refine aw_if_eq (tgt := 107) dX5_search_78 (by decide) (fun z => ?_) (fun z => ?_)
          · replace h := h.1 z
            exact aw_less (less_k (less_k (less_k (less_k (less_k (less_k (less_k (less_d less_nil)))))))) h
          · replace h := h.2 z
            refine aw_aload_n dX5_search_81 rfl rfl ?_
            refine aw_iconst (v := 1) dX5_search_82 (by decide) ?_
            refine aw_putf dX5_search_83 fp_X5_15 (by decide) ce_73 rfl (nar_b (by decide)) (fit_b (by decide)) ?_
            refine aw_aload_n dX5_search_86 rfl rfl ?_
            refine aw_iload dX5_search_87 rfl ?_
            refine aw_putf dX5_search_89 fp_X5_42 (by decide) ce_73 rfl rfl rfl ?_
            refine aw_aload_n dX5_search_92 rfl rfl ?_
            refine aw_iload dX5_search_93 rfl ?_
            refine aw_callS (mi := iJ6_bitCount_0f7a4) (av := [.int x5]) (st := [.ref 73]) dX5_search_95 ml_X5_23 kJ6_bitCount_0f7a4 rfl rfl (Nat.le_of_ble_eq_true rfl) (AM.mono (p_J6_bitCount _) (fun r9 M9 e9 => ?_))
            obtain ⟨rfl, rfl⟩ := e9
            refine aw_putf dX5_search_98 fp_X5_46 (by decide) ce_73 rfl rfl rfl ?_
            refine aw_aload_n dX5_search_101 rfl rfl ?_
            refine aw_iload dX5_search_102 rfl ?_
            refine aw_putf dX5_search_104 fp_X5_49 (by decide) ce_73 rfl rfl rfl ?_
            exact aw_less (less_k (less_k (less_k (less_k (less_k (less_k (less_k (less_d less_nil)))))))) h
theorem bX5_search_107 {d : Nat} {Q : Option Int32 → Mem → Prop} (M : Mem) (x1 x2 x3 x4 x5 x6 : Int32) (h : AX5_search (d + 1) Q 18 [lR 73, lI x1, lI x2, lI x3, lI x4, lI (nxV x5 x4), lI (x6 + 1), none] [] M) : AX5_search (d + 1) Q 107 [lR 73, lI x1, lI x2, lI x3, lI x4, lI x5, lI x6, none] [] M := by
  refine aw_iload dX5_search_107 rfl ?_
  refine aw_iload dX5_search_109 rfl ?_
  refine aw_callN (mi := iX9_nextSubset) (av := [.int x5, .int x4]) (st := []) dX5_search_111 (host := "TallerWitness") (by decide) kX9_nextSubset rfl rfl (Nat.le_of_ble_eq_true rfl) (AM.mono (p_X9_nextSubset _ _) (fun r9 M9 e9 => ?_))
  obtain ⟨rfl, rfl⟩ := e9
  refine aw_istore (L2 := [lR 73, lI x1, lI x2, lI x3, lI x4, lI (nxV x5 x4), lI x6, none]) dX5_search_114 (by decide) rfl ?_
  refine aw_iinc (y := 1) (L2 := [lR 73, lI x1, lI x2, lI x3, lI x4, lI (nxV x5 x4), lI (x6 + 1), none]) dX5_search_116 rfl (by decide) (by decide) rfl ?_
  refine aw_goto (tgt := 18) dX5_search_119 (by decide) ?_
  exact h
abbrev AX1_standing (d : Nat) (Q : Option Int32 → Mem → Prop) (pc : Nat) (L : List (Option Value)) (st : List Value) (M : Mem) : Prop := AW none RX1 cX1_standing 3 (some .int) d Q pc L st M
theorem eX1_standing {d : Nat} {Q : Option Int32 → Mem → Prop} (M : Mem) (x1 x2 : Int32) (h : AX1_standing d Q 0 [lR 74, lI x1, lI x2] [] M) : AM d iX1_standing [.ref 74, .int x1, .int x2] M Q := AM.of2 (by decide) rfl rfl h
theorem bX1_standing_0 {d : Nat} {Q : Option Int32 → Mem → Prop} (M : Mem) (x1 x2 : Int32) (h : (vp_in x1 2) ∧ (AMi d iX6_comesToTop [.ref 62, .int (M 75 (ix x1)), .int x2] M (fun r1 M1 => (r1 = 0 → Q (some 0) M1) ∧ (¬ r1 = 0 → Q (some 1) M1)))) : AX1_standing (d + 1) Q 0 [lR 74, lI x1, lI x2] [] M := by
  refine aw_aload_n dX1_standing_0 rfl rfl ?_
  refine aw_getf dX1_standing_1 fl_X1_15 (by decide) ce_74 rfl (v := .ref 62) rfl ?_
  refine aw_aload_n dX1_standing_4 rfl rfl ?_
  refine aw_getf dX1_standing_5 fl_X1_9 (by decide) ce_74 rfl (v := .ref 75) rfl ?_
  refine aw_iload_n dX1_standing_8 rfl rfl ?_
  obtain ⟨h9, h⟩ := h
  refine aw_iald dX1_standing_9 (by decide) ce_75 h9 ?_
  refine aw_iload_n dX1_standing_10 rfl rfl ?_
  refine aw_callV (mi := iX6_comesToTop) (av := [.int (M 75 (ix x1)), .int x2]) (st := []) dX1_standing_11 ml_X1_48 kX6_comesToTop (by decide) ce_62 clX6 rfl rfl rfl (Nat.le_of_ble_eq_true rfl) (AM.mono h (fun r9 M1 h => ?_))
  obtain ⟨r1, rfl, h⟩ := h
  refine aw_if_eq (tgt := 21) dX1_standing_14 (by decide) (fun z => ?_) (fun z => ?_)
  · replace h := h.1 z
    refine aw_iconst (v := 0) dX1_standing_21 (by decide) ?_
    exact aw_iret dX1_standing_22 rfl rfl h
  · replace h := h.2 z
    refine aw_iconst (v := 1) dX1_standing_17 (by decide) ?_
    refine aw_goto (tgt := 22) dX1_standing_18 (by decide) ?_
    exact aw_iret dX1_standing_22 rfl rfl h
abbrev AX1_play (d : Nat) (Q : Option Int32 → Mem → Prop) (pc : Nat) (L : List (Option Value)) (st : List Value) (M : Mem) : Prop := AW none RX1 cX1_play 9 (some .int) d Q pc L st M
theorem eX1_play {d : Nat} {Q : Option Int32 → Mem → Prop} (M : Mem) (x1 x2 x3 x4 : Int32) (h : AX1_play d Q 0 [lR 74, lI x1, lI x2, lI x3, lI x4, none, none, none, none] [] M) : AM d iX1_play [.ref 74, .int x1, .int x2, .int x3, .int x4] M Q := AM.of2 (by decide) rfl rfl h
theorem bX1_play_0 {d : Nat} {Q : Option Int32 → Mem → Prop} (M : Mem) (x1 x2 x3 x4 : Int32) (h : (0 < x4 → AMi d iX1_play [.ref 74, .int (1 - x1), .int x3, .int x2, .int (x4 - 1)] M (fun r1 M1 => AX1_play (d + 1) Q 44 [lR 74, lI x1, lI x2, lI x3, lI x4, lI (-r1), lI (-2), lI 0, none] [] M1)) ∧ (¬ 0 < x4 → AMi d iX1_standing [.ref 74, .int x1, .int x2] M (fun r2 M2 => AMi d iX1_standing [.ref 74, .int (1 - x1), .int x3] M2 (fun r3 M3 => Q (some (r2 - r3)) M3)))) : AX1_play (d + 1) Q 0 [lR 74, lI x1, lI x2, lI x3, lI x4, none, none, none, none] [] M := by
  refine aw_iload dX1_play_0 rfl ?_
  refine aw_if_gt (tgt := 21) dX1_play_2 (by decide) (fun z => ?_) (fun z => ?_)
  · replace h := h.1 z
    refine aw_aload_n dX1_play_21 rfl rfl ?_
    refine aw_iconst (v := 1) dX1_play_22 (by decide) ?_
    refine aw_iload_n dX1_play_23 rfl rfl ?_
    refine aw_isub dX1_play_24 ?_
    refine aw_iload_n dX1_play_25 rfl rfl ?_
    refine aw_iload_n dX1_play_26 rfl rfl ?_
    refine aw_iload dX1_play_27 rfl ?_
    refine aw_iconst (v := 1) dX1_play_29 (by decide) ?_
    refine aw_isub dX1_play_30 ?_
    refine aw_callV (mi := iX1_play) (av := [.int (1 - x1), .int x3, .int x2, .int (x4 - 1)]) (st := []) dX1_play_31 ml_X1_27 kX1_play (by decide) ce_74 clX1 rfl rfl rfl (Nat.le_of_ble_eq_true rfl) (AM.mono h (fun r9 M1 h => ?_))
    obtain ⟨r1, rfl, h⟩ := h
    refine aw_ineg dX1_play_34 ?_
    refine aw_istore (L2 := [lR 74, lI x1, lI x2, lI x3, lI x4, lI (-r1), none, none, none]) dX1_play_35 (by decide) rfl ?_
    refine aw_bipush (v := (-2)) dX1_play_37 (by decide) ?_
    refine aw_istore (L2 := [lR 74, lI x1, lI x2, lI x3, lI x4, lI (-r1), lI (-2), none, none]) dX1_play_39 (by decide) rfl ?_
    refine aw_iconst (v := 0) dX1_play_41 (by decide) ?_
    refine aw_istore (L2 := [lR 74, lI x1, lI x2, lI x3, lI x4, lI (-r1), lI (-2), lI 0, none]) dX1_play_42 (by decide) rfl ?_
    exact h
  · replace h := h.2 z
    refine aw_aload_n dX1_play_5 rfl rfl ?_
    refine aw_iload_n dX1_play_6 rfl rfl ?_
    refine aw_iload_n dX1_play_7 rfl rfl ?_
    refine aw_callV (mi := iX1_standing) (av := [.int x1, .int x2]) (st := []) dX1_play_8 ml_X1_31 kX1_standing (by decide) ce_74 clX1 rfl rfl rfl (Nat.le_of_ble_eq_true rfl) (AM.mono h (fun r9 M2 h => ?_))
    obtain ⟨r2, rfl, h⟩ := h
    refine aw_aload_n dX1_play_11 rfl rfl ?_
    refine aw_iconst (v := 1) dX1_play_12 (by decide) ?_
    refine aw_iload_n dX1_play_13 rfl rfl ?_
    refine aw_isub dX1_play_14 ?_
    refine aw_iload_n dX1_play_15 rfl rfl ?_
    refine aw_callV (mi := iX1_standing) (av := [.int (1 - x1), .int x3]) (st := [.int r2]) dX1_play_16 ml_X1_31 kX1_standing (by decide) ce_74 clX1 rfl rfl rfl (Nat.le_of_ble_eq_true rfl) (AM.mono h (fun r9 M3 h => ?_))
    obtain ⟨r3, rfl, h⟩ := h
    refine aw_isub dX1_play_19 ?_
    exact aw_iret dX1_play_20 rfl rfl h
theorem bX1_play_44 {d : Nat} {Q : Option Int32 → Mem → Prop} (M : Mem) (x1 x2 x3 x4 x5 x6 x7 : Int32) (h : (16 ≤ x7 → Q (some x5) (wr M 74 2 x6)) ∧ (¬ 16 ≤ x7 → (1 ≤ x5 → Q (some x5) (wr M 74 2 x6)) ∧ (¬ 1 ≤ x5 → (¬ (hasV (x2 ||| x3) x7) = 0 → AX1_play (d + 1) Q 44 [lR 74, lI x1, lI x2, lI x3, lI x4, lI x5, lI x6, lI (x7 + 1), none] [] M) ∧ ((hasV (x2 ||| x3) x7) = 0 → (vp_in x7 16) ∧ ((((M 65 (ix x7)) &&& x2) = 0 → AX1_play (d + 1) Q 44 [lR 74, lI x1, lI x2, lI x3, lI x4, lI x5, lI x6, lI (x7 + 1), none] [] M) ∧ (¬ ((M 65 (ix x7)) &&& x2) = 0 → AMi d iX1_play [.ref 74, .int (1 - x1), .int x3, .int (x2 ||| ((1 : Int32) <<< (x7 &&& 31))), .int (x4 - 1)] M (fun r1 M1 => ((-r1) ≤ x5 → AX1_play (d + 1) Q 44 [lR 74, lI x1, lI x2, lI x3, lI x4, lI x5, lI x6, lI (x7 + 1), none] [] M1) ∧ (¬ (-r1) ≤ x5 → AX1_play (d + 1) Q 44 [lR 74, lI x1, lI x2, lI x3, lI x4, lI (-r1), lI x7, lI (x7 + 1), none] [] M1)))))))) : AX1_play (d + 1) Q 44 [lR 74, lI x1, lI x2, lI x3, lI x4, lI x5, lI x6, lI x7, none] [] M := by
  refine aw_iload dX1_play_44 rfl ?_
  refine aw_bipush (v := 16) dX1_play_46 (by decide) ?_
  refine aw_icmp_ge (tgt := 125) dX1_play_48 (by decide) (fun z => ?_) (fun z => ?_)
  · replace h := h.1 z
    refine aw_aload_n dX1_play_125 rfl rfl ?_
    refine aw_iload dX1_play_126 rfl ?_
    refine aw_putf dX1_play_128 fp_X1_44 (by decide) ce_74 rfl rfl rfl ?_
    refine aw_iload dX1_play_131 rfl ?_
    exact aw_iret dX1_play_133 rfl rfl h
  · replace h := h.2 z
    refine aw_iload dX1_play_51 rfl ?_
    refine aw_iconst (v := 1) dX1_play_53 (by decide) ?_
    refine aw_icmp_ge (tgt := 125) dX1_play_54 (by decide) (fun z => ?_) (fun z => ?_)
    · replace h := h.1 z
      refine aw_aload_n dX1_play_125 rfl rfl ?_
      refine aw_iload dX1_play_126 rfl ?_
      refine aw_putf dX1_play_128 fp_X1_44 (by decide) ce_74 rfl rfl rfl ?_
      refine aw_iload dX1_play_131 rfl ?_
      exact aw_iret dX1_play_133 rfl rfl h
    · replace h := h.2 z
      refine aw_iload_n dX1_play_57 rfl rfl ?_
      refine aw_iload_n dX1_play_58 rfl rfl ?_
      refine aw_ior dX1_play_59 ?_
      refine aw_iload dX1_play_60 rfl ?_
      refine aw_callN (mi := iX9_has) (av := [.int (x2 ||| x3), .int x7]) (st := []) dX1_play_62 (host := "TallerWitness") (by decide) kX9_has rfl rfl (Nat.le_of_ble_eq_true rfl) (AM.mono (p_X9_has _ _) (fun r9 M9 e9 => ?_))
      obtain ⟨rfl, rfl⟩ := e9
      refine aw_if_ne (tgt := 119) dX1_play_65 (by decide) (fun z => ?_) (fun z => ?_)
      · replace h := h.1 z
        refine aw_iinc (y := 1) (L2 := [lR 74, lI x1, lI x2, lI x3, lI x4, lI x5, lI x6, lI (x7 + 1), none]) dX1_play_119 rfl (by decide) (by decide) rfl ?_
        refine aw_goto (tgt := 44) dX1_play_122 (by decide) ?_
        exact h
      · replace h := h.2 z
        refine aw_aload_n dX1_play_68 rfl rfl ?_
        refine aw_getf dX1_play_69 fl_X1_15 (by decide) ce_74 rfl (v := .ref 62) rfl ?_
        refine aw_getf dX1_play_72 fl_X1_39 (by decide) ce_62 rfl (v := .ref 65) rfl ?_
        refine aw_iload dX1_play_75 rfl ?_
        obtain ⟨h9, h⟩ := h
        refine aw_iald dX1_play_77 (by decide) ce_65 h9 ?_
        refine aw_iload_n dX1_play_78 rfl rfl ?_
        refine aw_iand dX1_play_79 ?_
        refine aw_if_eq (tgt := 119) dX1_play_80 (by decide) (fun z => ?_) (fun z => ?_)
        · replace h := h.1 z
          refine aw_iinc (y := 1) (L2 := [lR 74, lI x1, lI x2, lI x3, lI x4, lI x5, lI x6, lI (x7 + 1), none]) dX1_play_119 rfl (by decide) (by decide) rfl ?_
          refine aw_goto (tgt := 44) dX1_play_122 (by decide) ?_
          exact h
        · replace h := h.2 z
          refine aw_aload_n dX1_play_83 rfl rfl ?_
          refine aw_iconst (v := 1) dX1_play_84 (by decide) ?_
          refine aw_iload_n dX1_play_85 rfl rfl ?_
          refine aw_isub dX1_play_86 ?_
          refine aw_iload_n dX1_play_87 rfl rfl ?_
          refine aw_iload_n dX1_play_88 rfl rfl ?_
          refine aw_iconst (v := 1) dX1_play_89 (by decide) ?_
          refine aw_iload dX1_play_90 rfl ?_
          refine aw_ishl dX1_play_92 ?_
          refine aw_ior dX1_play_93 ?_
          refine aw_iload dX1_play_94 rfl ?_
          refine aw_iconst (v := 1) dX1_play_96 (by decide) ?_
          refine aw_isub dX1_play_97 ?_
          refine aw_callV (mi := iX1_play) (av := [.int (1 - x1), .int x3, .int (x2 ||| ((1 : Int32) <<< (x7 &&& 31))), .int (x4 - 1)]) (st := []) dX1_play_98 ml_X1_27 kX1_play (by decide) ce_74 clX1 rfl rfl rfl (Nat.le_of_ble_eq_true rfl) (AM.mono h (fun r9 M1 h => ?_))
          obtain ⟨r1, rfl, h⟩ := h
          refine aw_ineg dX1_play_101 ?_
          refine aw_istore (L2 := [lR 74, lI x1, lI x2, lI x3, lI x4, lI x5, lI x6, lI x7, lI (-r1)]) dX1_play_102 (by decide) rfl ?_
          refine aw_iload dX1_play_104 rfl ?_
          refine aw_iload dX1_play_106 rfl ?_
          refine aw_icmp_le (tgt := 119) dX1_play_108 (by decide) (fun z => ?_) (fun z => ?_)
          · replace h := h.1 z
            refine aw_iinc (y := 1) (L2 := [lR 74, lI x1, lI x2, lI x3, lI x4, lI x5, lI x6, lI (x7 + 1), lI (-r1)]) dX1_play_119 rfl (by decide) (by decide) rfl ?_
            refine aw_goto (tgt := 44) dX1_play_122 (by decide) ?_
            exact aw_less (less_k (less_k (less_k (less_k (less_k (less_k (less_k (less_k (less_d less_nil))))))))) h
          · replace h := h.2 z
            refine aw_iload dX1_play_111 rfl ?_
            refine aw_istore (L2 := [lR 74, lI x1, lI x2, lI x3, lI x4, lI (-r1), lI x6, lI x7, lI (-r1)]) dX1_play_113 (by decide) rfl ?_
            refine aw_iload dX1_play_115 rfl ?_
            refine aw_istore (L2 := [lR 74, lI x1, lI x2, lI x3, lI x4, lI (-r1), lI x7, lI x7, lI (-r1)]) dX1_play_117 (by decide) rfl ?_
            refine aw_iinc (y := 1) (L2 := [lR 74, lI x1, lI x2, lI x3, lI x4, lI (-r1), lI x7, lI (x7 + 1), lI (-r1)]) dX1_play_119 rfl (by decide) (by decide) rfl ?_
            refine aw_goto (tgt := 44) dX1_play_122 (by decide) ?_
            exact aw_less (less_k (less_k (less_k (less_k (less_k (less_k (less_k (less_k (less_d less_nil))))))))) h
abbrev AX1_outcomeFor (d : Nat) (Q : Option Int32 → Mem → Prop) (pc : Nat) (L : List (Option Value)) (st : List Value) (M : Mem) : Prop := AW none RX1 cX1_outcomeFor 5 (some .int) d Q pc L st M
theorem eX1_outcomeFor {d : Nat} {Q : Option Int32 → Mem → Prop} {v : Nat} (M : Mem) (x2 x3 x4 : Int32) (h : AX1_outcomeFor d Q 0 [lR 74, lR v, lI x2, lI x3, lI x4] [] M) : AM d iX1_outcomeFor [.ref 74, .ref v, .int x2, .int x3, .int x4] M Q := AM.of2 (by decide) rfl rfl h
theorem bX1_outcomeFor_0 {d : Nat} {Q : Option Int32 → Mem → Prop} {v : Nat} (h_v : isV v) (M : Mem) (x2 x3 x4 : Int32) (h : (vp_in x2 12) ∧ ((vp_in x3 12) ∧ ((vp_in x2 12) ∧ ((vp_in x3 12) ∧ (AMi d iX1_play [.ref 74, .int 0, .int ((wr (wr M 75 0 (M (v + 6) (ix x2))) 75 1 ((wr M 75 0 (M (v + 6) (ix x2))) (v + 6) (ix x3))) (v + 7) (ix x2)), .int ((wr (wr M 75 0 (M (v + 6) (ix x2))) 75 1 ((wr M 75 0 (M (v + 6) (ix x2))) (v + 6) (ix x3))) (v + 7) (ix x3)), .int x4] (wr (wr M 75 0 (M (v + 6) (ix x2))) 75 1 ((wr M 75 0 (M (v + 6) (ix x2))) (v + 6) (ix x3))) (fun r1 M1 => Q (some r1) M1)))))) : AX1_outcomeFor (d + 1) Q 0 [lR 74, lR v, lI x2, lI x3, lI x4] [] M := by
  refine aw_aload_n dX1_outcomeFor_0 rfl rfl ?_
  refine aw_getf dX1_outcomeFor_1 fl_X1_9 (by decide) ce_74 rfl (v := .ref 75) rfl ?_
  refine aw_iconst (v := 0) dX1_outcomeFor_4 (by decide) ?_
  refine aw_aload_n dX1_outcomeFor_5 rfl rfl ?_
  refine aw_getf dX1_outcomeFor_6 fl_X1_19 (kV0 h_v) (cV0 h_v) rfl (v := .ref (v + 6)) rfl ?_
  refine aw_iload_n dX1_outcomeFor_9 rfl rfl ?_
  obtain ⟨h9, h⟩ := h
  refine aw_iald dX1_outcomeFor_10 (kV6 h_v) (cV6 h_v) h9 ?_
  refine aw_iast dX1_outcomeFor_11 (by decide) ce_75 (by unfold vp_in; decide) ?_
  refine aw_aload_n dX1_outcomeFor_12 rfl rfl ?_
  refine aw_getf dX1_outcomeFor_13 fl_X1_9 (by decide) ce_74 rfl (v := .ref 75) rfl ?_
  refine aw_iconst (v := 1) dX1_outcomeFor_16 (by decide) ?_
  refine aw_aload_n dX1_outcomeFor_17 rfl rfl ?_
  refine aw_getf dX1_outcomeFor_18 fl_X1_19 (kV0 h_v) (cV0 h_v) rfl (v := .ref (v + 6)) rfl ?_
  refine aw_iload_n dX1_outcomeFor_21 rfl rfl ?_
  obtain ⟨h9, h⟩ := h
  refine aw_iald dX1_outcomeFor_22 (kV6 h_v) (cV6 h_v) h9 ?_
  refine aw_iast dX1_outcomeFor_23 (by decide) ce_75 (by unfold vp_in; decide) ?_
  refine aw_aload_n dX1_outcomeFor_24 rfl rfl ?_
  refine aw_iconst (v := 0) dX1_outcomeFor_25 (by decide) ?_
  refine aw_aload_n dX1_outcomeFor_26 rfl rfl ?_
  refine aw_getf dX1_outcomeFor_27 fl_X1_24 (kV0 h_v) (cV0 h_v) rfl (v := .ref (v + 7)) rfl ?_
  refine aw_iload_n dX1_outcomeFor_30 rfl rfl ?_
  obtain ⟨h9, h⟩ := h
  refine aw_iald dX1_outcomeFor_31 (kV7 h_v) (cV7 h_v) h9 ?_
  refine aw_aload_n dX1_outcomeFor_32 rfl rfl ?_
  refine aw_getf dX1_outcomeFor_33 fl_X1_24 (kV0 h_v) (cV0 h_v) rfl (v := .ref (v + 7)) rfl ?_
  refine aw_iload_n dX1_outcomeFor_36 rfl rfl ?_
  obtain ⟨h9, h⟩ := h
  refine aw_iald dX1_outcomeFor_37 (kV7 h_v) (cV7 h_v) h9 ?_
  refine aw_iload dX1_outcomeFor_38 rfl ?_
  refine aw_callV (mi := iX1_play) (av := [.int 0, .int ((wr (wr M 75 0 (M (v + 6) (ix x2))) 75 1 ((wr M 75 0 (M (v + 6) (ix x2))) (v + 6) (ix x3))) (v + 7) (ix x2)), .int ((wr (wr M 75 0 (M (v + 6) (ix x2))) 75 1 ((wr M 75 0 (M (v + 6) (ix x2))) (v + 6) (ix x3))) (v + 7) (ix x3)), .int x4]) (st := []) dX1_outcomeFor_40 ml_X1_27 kX1_play (by decide) ce_74 clX1 rfl rfl rfl (Nat.le_of_ble_eq_true rfl) (AM.mono h (fun r9 M1 h => ?_))
  obtain ⟨r1, rfl, h⟩ := h
  exact aw_iret dX1_outcomeFor_43 rfl rfl h
abbrev AX9_runYears (d : Nat) (Q : Option Int32 → Mem → Prop) (pc : Nat) (L : List (Option Value)) (st : List Value) (M : Mem) : Prop := AW none RX9 cX9_runYears 5 (some .int) d Q pc L st M
theorem eX9_runYears {d : Nat} {Q : Option Int32 → Mem → Prop} {v : Nat} (M : Mem) (x2 : Int32) (h : AX9_runYears d Q 0 [lR 0, lR v, lI x2, none, none] [] M) : AM d iX9_runYears [.ref 0, .ref v, .int x2] M Q := AM.of2 (by decide) rfl rfl h
theorem bX9_runYears_0 {d : Nat} {Q : Option Int32 → Mem → Prop} {v : Nat} (h_v : isV v) (M : Mem) (x2 : Int32) (h : AX9_runYears (d + 1) Q 5 [lR 0, lR v, lI x2, lI 0, lI 0] [] M) : AX9_runYears (d + 1) Q 0 [lR 0, lR v, lI x2, none, none] [] M := by
  refine aw_iconst (v := 0) dX9_runYears_0 (by decide) ?_
  refine aw_istore_n (L2 := [lR 0, lR v, lI x2, lI 0, none]) dX9_runYears_1 rfl (by decide) rfl ?_
  refine aw_iconst (v := 0) dX9_runYears_2 (by decide) ?_
  refine aw_istore (L2 := [lR 0, lR v, lI x2, lI 0, lI 0]) dX9_runYears_3 (by decide) rfl ?_
  exact h
theorem bX9_runYears_5 {d : Nat} {Q : Option Int32 → Mem → Prop} {v : Nat} (h_v : isV v) (M : Mem) (x2 x3 x4 : Int32) (h : (x2 ≤ x4 → Q (some x3) M) ∧ (¬ x2 ≤ x4 → AMi d iX8_nextDraw [.ref v] M (fun r1 M1 => AMi d iX8_passYear [.ref v, .ref 37, .int r1] M1 (fun r2 M2 => AX9_runYears (d + 1) Q 5 [lR 0, lR v, lI x2, lI (x3 + r2), lI (x4 + 1)] [] M2)))) : AX9_runYears (d + 1) Q 5 [lR 0, lR v, lI x2, lI x3, lI x4] [] M := by
  refine aw_iload dX9_runYears_5 rfl ?_
  refine aw_iload_n dX9_runYears_7 rfl rfl ?_
  refine aw_icmp_ge (tgt := 34) dX9_runYears_8 (by decide) (fun z => ?_) (fun z => ?_)
  · replace h := h.1 z
    refine aw_iload_n dX9_runYears_34 rfl rfl ?_
    exact aw_iret dX9_runYears_35 rfl rfl h
  · replace h := h.2 z
    refine aw_iload_n dX9_runYears_11 rfl rfl ?_
    refine aw_aload_n dX9_runYears_12 rfl rfl ?_
    refine aw_aload_n dX9_runYears_13 rfl rfl ?_
    refine aw_getf dX9_runYears_14 fl_X9_31 (by decide) ce_0 rfl (v := .ref 36) rfl ?_
    refine aw_iconst (v := 0) dX9_runYears_17 (by decide) ?_
    refine aw_aald dX9_runYears_18 (by decide) ce_36 (by unfold vp_in; decide) rfl ?_
    refine aw_aload_n dX9_runYears_19 rfl rfl ?_
    refine aw_callV (mi := iX8_nextDraw) (av := []) (st := [.ref 37, .ref v, .int x3]) dX9_runYears_20 ml_X9_260 kX8_nextDraw (kV0 h_v) (cV0 h_v) clX8 rfl rfl rfl (Nat.le_of_ble_eq_true rfl) (AM.mono h (fun r9 M1 h => ?_))
    obtain ⟨r1, rfl, h⟩ := h
    refine aw_callV (mi := iX8_passYear) (av := [.ref 37, .int r1]) (st := [.int x3]) dX9_runYears_23 ml_X9_170 kX8_passYear (kV0 h_v) (cV0 h_v) clX8 rfl rfl rfl (Nat.le_of_ble_eq_true rfl) (AM.mono h (fun r9 M2 h => ?_))
    obtain ⟨r2, rfl, h⟩ := h
    refine aw_iadd dX9_runYears_26 ?_
    refine aw_istore_n (L2 := [lR 0, lR v, lI x2, lI (x3 + r2), lI x4]) dX9_runYears_27 rfl (by decide) rfl ?_
    refine aw_iinc (y := 1) (L2 := [lR 0, lR v, lI x2, lI (x3 + r2), lI (x4 + 1)]) dX9_runYears_28 rfl (by decide) (by decide) rfl ?_
    refine aw_goto (tgt := 5) dX9_runYears_31 (by decide) ?_
    exact h
abbrev AX9_heldBy (d : Nat) (Q : Option Int32 → Mem → Prop) (pc : Nat) (L : List (Option Value)) (st : List Value) (M : Mem) : Prop := AW none RX9 cX9_heldBy 3 (some .int) d Q pc L st M
theorem eX9_heldBy {d : Nat} {Q : Option Int32 → Mem → Prop} {v : Nat} {la : Nat} (M : Mem) (h : AX9_heldBy d Q 0 [lR 0, lR v, lR la] [] M) : AM d iX9_heldBy [.ref 0, .ref v, .ref la] M Q := AM.of2 (by decide) rfl rfl h
theorem bX9_heldBy_0 {d : Nat} {Q : Option Int32 → Mem → Prop} {v : Nat} (h_v : isV v) {la : Nat} (h_la : isA la) (M : Mem) (h : AMv d iX6_reckon [.ref 62, .ref v, .ref la] M (fun M1 => AMi d iX6_heldOaths [.ref 62, .int 0] M1 (fun r2 M2 => Q (some r2) M2))) : AX9_heldBy (d + 1) Q 0 [lR 0, lR v, lR la] [] M := by
  refine aw_aload_n dX9_heldBy_0 rfl rfl ?_
  refine aw_getf dX9_heldBy_1 fl_X9_54 (by decide) ce_0 rfl (v := .ref 62) rfl ?_
  refine aw_aload_n dX9_heldBy_4 rfl rfl ?_
  refine aw_aload_n dX9_heldBy_5 rfl rfl ?_
  refine aw_callV (mi := iX6_reckon) (av := [.ref v, .ref la]) (st := []) dX9_heldBy_6 ml_X9_132 kX6_reckon (by decide) ce_62 clX6 rfl rfl rfl (Nat.le_of_ble_eq_true rfl) (AM.mono h (fun r9 M1 h => ?_))
  obtain ⟨rfl, h⟩ := h
  refine aw_aload_n dX9_heldBy_9 rfl rfl ?_
  refine aw_getf dX9_heldBy_10 fl_X9_54 (by decide) ce_0 rfl (v := .ref 62) rfl ?_
  refine aw_iconst (v := 0) dX9_heldBy_13 (by decide) ?_
  refine aw_callV (mi := iX6_heldOaths) (av := [.int 0]) (st := []) dX9_heldBy_14 ml_X9_223 kX6_heldOaths (by decide) ce_62 clX6 rfl rfl rfl (Nat.le_of_ble_eq_true rfl) (AM.mono h (fun r9 M2 h => ?_))
  obtain ⟨r2, rfl, h⟩ := h
  exact aw_iret dX9_heldBy_17 rfl rfl h
abbrev AX9_explainsAll (d : Nat) (Q : Option Int32 → Mem → Prop) (pc : Nat) (L : List (Option Value)) (st : List Value) (M : Mem) : Prop := AW none RX9 cX9_explainsAll 3 (some .boolean) d Q pc L st M
theorem eX9_explainsAll {d : Nat} {Q : Option Int32 → Mem → Prop} (M : Mem) (x1 : Int32) (h : AX9_explainsAll d Q 0 [lR 0, lI x1, none] [] M) : AM d iX9_explainsAll [.ref 0, .int x1] M Q := AM.of2 (by decide) rfl rfl h
theorem bX9_explainsAll_0 {d : Nat} {Q : Option Int32 → Mem → Prop} (M : Mem) (x1 : Int32) (h : AX9_explainsAll d Q 2 [lR 0, lI x1, lI 0] [] M) : AX9_explainsAll d Q 0 [lR 0, lI x1, none] [] M := by
  refine aw_iconst (v := 0) dX9_explainsAll_0 (by decide) ?_
  refine aw_istore_n (L2 := [lR 0, lI x1, lI 0]) dX9_explainsAll_1 rfl (by decide) rfl ?_
  exact h
theorem bX9_explainsAll_2 {d : Nat} {Q : Option Int32 → Mem → Prop} (M : Mem) (x1 x2 : Int32) (h : ((M 0 12) ≤ x2 → Q (some 1) M) ∧ (¬ (M 0 12) ≤ x2 → (vp_in x2 12) ∧ ((¬ ((M 76 (ix x2)) &&& x1) = 0 → AX9_explainsAll d Q 2 [lR 0, lI x1, lI (x2 + 1)] [] M) ∧ (((M 76 (ix x2)) &&& x1) = 0 → Q (some 0) M)))) : AX9_explainsAll d Q 2 [lR 0, lI x1, lI x2] [] M := by
  refine aw_iload_n dX9_explainsAll_2 rfl rfl ?_
  refine aw_aload_n dX9_explainsAll_3 rfl rfl ?_
  refine aw_getf dX9_explainsAll_4 fl_X9_229 (by decide) ce_0 rfl (v := .int (M 0 12)) rfl ?_
  refine aw_icmp_ge (tgt := 29) dX9_explainsAll_7 (by decide) (fun z => ?_) (fun z => ?_)
  · replace h := h.1 z
    refine aw_iconst (v := 1) dX9_explainsAll_29 (by decide) ?_
    exact aw_iret dX9_explainsAll_30 rfl (nar_b (by decide)) h
  · replace h := h.2 z
    refine aw_aload_n dX9_explainsAll_10 rfl rfl ?_
    refine aw_getf dX9_explainsAll_11 fl_X9_81 (by decide) ce_0 rfl (v := .ref 76) rfl ?_
    refine aw_iload_n dX9_explainsAll_14 rfl rfl ?_
    obtain ⟨h9, h⟩ := h
    refine aw_iald dX9_explainsAll_15 (by decide) ce_76 h9 ?_
    refine aw_iload_n dX9_explainsAll_16 rfl rfl ?_
    refine aw_iand dX9_explainsAll_17 ?_
    refine aw_if_ne (tgt := 23) dX9_explainsAll_18 (by decide) (fun z => ?_) (fun z => ?_)
    · replace h := h.1 z
      refine aw_iinc (y := 1) (L2 := [lR 0, lI x1, lI (x2 + 1)]) dX9_explainsAll_23 rfl (by decide) (by decide) rfl ?_
      refine aw_goto (tgt := 2) dX9_explainsAll_26 (by decide) ?_
      exact h
    · replace h := h.2 z
      refine aw_iconst (v := 0) dX9_explainsAll_21 (by decide) ?_
      exact aw_iret dX9_explainsAll_22 rfl (nar_b (by decide)) h
abbrev AX9_countWhole (d : Nat) (Q : Option Int32 → Mem → Prop) (pc : Nat) (L : List (Option Value)) (st : List Value) (M : Mem) : Prop := AW none RX9 cX9_countWhole 2 (some .int) d Q pc L st M
theorem eX9_countWhole {d : Nat} {Q : Option Int32 → Mem → Prop} (M : Mem) (x1 : Int32) (h : AX9_countWhole d Q 0 [lR 0, lI x1] [] M) : AM d iX9_countWhole [.ref 0, .int x1] M Q := AM.of2 (by decide) rfl rfl h
theorem bX9_countWhole_0 {d : Nat} {Q : Option Int32 → Mem → Prop} (M : Mem) (x1 : Int32) (h : (Int32.toInt x1 < 0 ∨ 9 < Int32.toInt x1 → Q (some (-1)) M) ∧ (x1 = 0 → Q (some (M 1 7)) M) ∧ (x1 = 1 → Q (some (M 1 9)) M) ∧ (x1 = 2 → Q (some (M 37 0)) M) ∧ (x1 = 3 → Q (some (M 45 0)) M) ∧ (x1 = 4 → Q (some (M 34 1)) M) ∧ (x1 = 5 → Q (some (M 1 10)) M) ∧ (x1 = 6 → Q (some (M 1 11)) M) ∧ (x1 = 7 → Q (some (M 0 12)) M) ∧ (x1 = 8 → Q (some (M 1 8)) M) ∧ (x1 = 9 → AMi d iX9_heldBy [.ref 0, .ref 1, .ref 37] M (fun r1 M1 => Q (some r1) M1))) : AX9_countWhole (d + 1) Q 0 [lR 0, lI x1] [] M := by
  refine aw_iload_n dX9_countWhole_0 rfl rfl ?_
  rcases Classical.em (Int32.toInt x1 < 0 ∨ 9 < Int32.toInt x1) with z | z
  · replace h := h.1 z
    refine aw_tableOut (tgt := 144) dX9_countWhole_1 z (by decide) ?_
    refine aw_iconst (v := (-1)) dX9_countWhole_144 (by decide) ?_
    exact aw_iret dX9_countWhole_145 rfl rfl h
  replace h := h.2
  rcases Classical.em (x1 = 0) with y | y
  · replace h := h.1 y
    refine aw_tableIn (off := 55) (tgt := 56) dX9_countWhole_1 (by rw [y]; decide) (by rw [y]; decide) (by rw [y]; rfl) (by decide) ?_
    refine aw_aload_n dX9_countWhole_56 rfl rfl ?_
    refine aw_getf dX9_countWhole_57 fl_X9_12 (by decide) ce_0 rfl (v := .ref 1) rfl ?_
    refine aw_getf dX9_countWhole_60 fl_X9_89 (by decide) ce_1 rfl (v := .int (M 1 7)) rfl ?_
    exact aw_iret dX9_countWhole_63 rfl rfl h
  replace h := h.2
  rename ¬ _ = _ => y0
  rcases Classical.em (x1 = 1) with y | y
  · replace h := h.1 y
    refine aw_tableIn (off := 63) (tgt := 64) dX9_countWhole_1 (by rw [y]; decide) (by rw [y]; decide) (by rw [y]; rfl) (by decide) ?_
    refine aw_aload_n dX9_countWhole_64 rfl rfl ?_
    refine aw_getf dX9_countWhole_65 fl_X9_12 (by decide) ce_0 rfl (v := .ref 1) rfl ?_
    refine aw_getf dX9_countWhole_68 fl_X9_143 (by decide) ce_1 rfl (v := .int (M 1 9)) rfl ?_
    exact aw_iret dX9_countWhole_71 rfl rfl h
  replace h := h.2
  rename ¬ _ = _ => y1
  rcases Classical.em (x1 = 2) with y | y
  · replace h := h.1 y
    refine aw_tableIn (off := 71) (tgt := 72) dX9_countWhole_1 (by rw [y]; decide) (by rw [y]; decide) (by rw [y]; rfl) (by decide) ?_
    refine aw_aload_n dX9_countWhole_72 rfl rfl ?_
    refine aw_getf dX9_countWhole_73 fl_X9_31 (by decide) ce_0 rfl (v := .ref 36) rfl ?_
    refine aw_iconst (v := 0) dX9_countWhole_76 (by decide) ?_
    refine aw_aald dX9_countWhole_77 (by decide) ce_36 (by unfold vp_in; decide) rfl ?_
    refine aw_getf dX9_countWhole_78 fl_X9_254 (by decide) ce_37 rfl (v := .int (M 37 0)) rfl ?_
    exact aw_iret dX9_countWhole_81 rfl rfl h
  replace h := h.2
  rename ¬ _ = _ => y2
  rcases Classical.em (x1 = 3) with y | y
  · replace h := h.1 y
    refine aw_tableIn (off := 81) (tgt := 82) dX9_countWhole_1 (by rw [y]; decide) (by rw [y]; decide) (by rw [y]; rfl) (by decide) ?_
    refine aw_aload_n dX9_countWhole_82 rfl rfl ?_
    refine aw_getf dX9_countWhole_83 fl_X9_31 (by decide) ce_0 rfl (v := .ref 36) rfl ?_
    refine aw_iconst (v := 1) dX9_countWhole_86 (by decide) ?_
    refine aw_aald dX9_countWhole_87 (by decide) ce_36 (by unfold vp_in; decide) rfl ?_
    refine aw_getf dX9_countWhole_88 fl_X9_254 (by decide) ce_45 rfl (v := .int (M 45 0)) rfl ?_
    exact aw_iret dX9_countWhole_91 rfl rfl h
  replace h := h.2
  rename ¬ _ = _ => y3
  rcases Classical.em (x1 = 4) with y | y
  · replace h := h.1 y
    refine aw_tableIn (off := 91) (tgt := 92) dX9_countWhole_1 (by rw [y]; decide) (by rw [y]; decide) (by rw [y]; rfl) (by decide) ?_
    refine aw_aload_n dX9_countWhole_92 rfl rfl ?_
    refine aw_getf dX9_countWhole_93 fl_X9_25 (by decide) ce_0 rfl (v := .ref 34) rfl ?_
    refine aw_getf dX9_countWhole_96 fl_X9_107 (by decide) ce_34 rfl (v := .int (M 34 1)) rfl ?_
    exact aw_iret dX9_countWhole_99 rfl rfl h
  replace h := h.2
  rename ¬ _ = _ => y4
  rcases Classical.em (x1 = 5) with y | y
  · replace h := h.1 y
    refine aw_tableIn (off := 99) (tgt := 100) dX9_countWhole_1 (by rw [y]; decide) (by rw [y]; decide) (by rw [y]; rfl) (by decide) ?_
    refine aw_aload_n dX9_countWhole_100 rfl rfl ?_
    refine aw_getf dX9_countWhole_101 fl_X9_12 (by decide) ce_0 rfl (v := .ref 1) rfl ?_
    refine aw_getf dX9_countWhole_104 fl_X9_257 (by decide) ce_1 rfl (v := .int (M 1 10)) rfl ?_
    exact aw_iret dX9_countWhole_107 rfl rfl h
  replace h := h.2
  rename ¬ _ = _ => y5
  rcases Classical.em (x1 = 6) with y | y
  · replace h := h.1 y
    refine aw_tableIn (off := 107) (tgt := 108) dX9_countWhole_1 (by rw [y]; decide) (by rw [y]; decide) (by rw [y]; rfl) (by decide) ?_
    refine aw_aload_n dX9_countWhole_108 rfl rfl ?_
    refine aw_getf dX9_countWhole_109 fl_X9_12 (by decide) ce_0 rfl (v := .ref 1) rfl ?_
    refine aw_getf dX9_countWhole_112 fl_X9_235 (by decide) ce_1 rfl (v := .int (M 1 11)) rfl ?_
    exact aw_iret dX9_countWhole_115 rfl rfl h
  replace h := h.2
  rename ¬ _ = _ => y6
  rcases Classical.em (x1 = 7) with y | y
  · replace h := h.1 y
    refine aw_tableIn (off := 115) (tgt := 116) dX9_countWhole_1 (by rw [y]; decide) (by rw [y]; decide) (by rw [y]; rfl) (by decide) ?_
    refine aw_aload_n dX9_countWhole_116 rfl rfl ?_
    refine aw_getf dX9_countWhole_117 fl_X9_229 (by decide) ce_0 rfl (v := .int (M 0 12)) rfl ?_
    exact aw_iret dX9_countWhole_120 rfl rfl h
  replace h := h.2
  rename ¬ _ = _ => y7
  rcases Classical.em (x1 = 8) with y | y
  · replace h := h.1 y
    refine aw_tableIn (off := 120) (tgt := 121) dX9_countWhole_1 (by rw [y]; decide) (by rw [y]; decide) (by rw [y]; rfl) (by decide) ?_
    refine aw_aload_n dX9_countWhole_121 rfl rfl ?_
    refine aw_getf dX9_countWhole_122 fl_X9_12 (by decide) ce_0 rfl (v := .ref 1) rfl ?_
    refine aw_getf dX9_countWhole_125 fl_X9_104 (by decide) ce_1 rfl (v := .int (M 1 8)) rfl ?_
    exact aw_iret dX9_countWhole_128 rfl rfl h
  replace h := h.2
  rename ¬ _ = _ => y8
  have y : x1 = 9 := Int32.toInt_inj.mp (by have e := z; have q0 := lv_neT (a := 0) y0 (by decide); have q1 := lv_neT (a := 1) y1 (by decide); have q2 := lv_neT (a := 2) y2 (by decide); have q3 := lv_neT (a := 3) y3 (by decide); have q4 := lv_neT (a := 4) y4 (by decide); have q5 := lv_neT (a := 5) y5 (by decide); have q6 := lv_neT (a := 6) y6 (by decide); have q7 := lv_neT (a := 7) y7 (by decide); have q8 := lv_neT (a := 8) y8 (by decide); show _ = (9 : Int); omega)
  replace h := h y
  refine aw_tableIn (off := 128) (tgt := 129) dX9_countWhole_1 (by rw [y]; decide) (by rw [y]; decide) (by rw [y]; rfl) (by decide) ?_
  refine aw_aload_n dX9_countWhole_129 rfl rfl ?_
  refine aw_aload_n dX9_countWhole_130 rfl rfl ?_
  refine aw_getf dX9_countWhole_131 fl_X9_12 (by decide) ce_0 rfl (v := .ref 1) rfl ?_
  refine aw_aload_n dX9_countWhole_134 rfl rfl ?_
  refine aw_getf dX9_countWhole_135 fl_X9_31 (by decide) ce_0 rfl (v := .ref 36) rfl ?_
  refine aw_iconst (v := 0) dX9_countWhole_138 (by decide) ?_
  refine aw_aald dX9_countWhole_139 (by decide) ce_36 (by unfold vp_in; decide) rfl ?_
  refine aw_callV (mi := iX9_heldBy) (av := [.ref 1, .ref 37]) (st := []) dX9_countWhole_140 ml_X9_181 kX9_heldBy (by decide) ce_0 clX9 rfl rfl rfl (Nat.le_of_ble_eq_true rfl) (AM.mono h (fun r9 M1 h => ?_))
  obtain ⟨r1, rfl, h⟩ := h
  exact aw_iret dX9_countWhole_143 rfl rfl h
abbrev AX9_person (d : Nat) (Q : Option Int32 → Mem → Prop) (pc : Nat) (L : List (Option Value)) (st : List Value) (M : Mem) : Prop := AW none RX9 cX9_person 6 (some .int) d Q pc L st M
theorem eX9_person {d : Nat} {Q : Option Int32 → Mem → Prop} (M : Mem) (x1 x2 x3 x4 : Int32) (h : AX9_person d Q 0 [lR 0, lI x1, lI x2, lI x3, lI x4, none] [] M) : AM d iX9_person [.ref 0, .int x1, .int x2, .int x3, .int x4] M Q := AM.of2 (by decide) rfl rfl h
theorem bX9_person_0 {d : Nat} {Q : Option Int32 → Mem → Prop} (M : Mem) (x1 x2 x3 x4 : Int32) (h : ((inV x1 0 4) = 0 → AX9_person (d + 1) Q 45 [lR 0, lI x1, lI x2, lI x3, lI x4, none] [] M) ∧ (¬ (inV x1 0 4) = 0 → ((inV x2 1 99) = 0 → AX9_person (d + 1) Q 45 [lR 0, lI x1, lI x2, lI x3, lI x4, none] [] M) ∧ (¬ (inV x2 1 99) = 0 → ((inV x3 0 99) = 0 → AX9_person (d + 1) Q 45 [lR 0, lI x1, lI x2, lI x3, lI x4, none] [] M) ∧ (¬ (inV x3 0 99) = 0 → ((inV x4 0 999) = 0 → AX9_person (d + 1) Q 45 [lR 0, lI x1, lI x2, lI x3, lI x4, none] [] M) ∧ (¬ (inV x4 0 999) = 0 → AX9_person (d + 1) Q 46 [lR 0, lI x1, lI x2, lI x3, lI x4, none] [.int 1] M))))) : AX9_person (d + 1) Q 0 [lR 0, lI x1, lI x2, lI x3, lI x4, none] [] M := by
  refine aw_iload_n dX9_person_0 rfl rfl ?_
  refine aw_iconst (v := 0) dX9_person_1 (by decide) ?_
  refine aw_iconst (v := 4) dX9_person_2 (by decide) ?_
  refine aw_callS (mi := iX9_within) (av := [.int x1, .int 0, .int 4]) (st := []) dX9_person_3 ml_X9_85 kX9_within rfl rfl (Nat.le_of_ble_eq_true rfl) (AM.mono (p_X9_within _ _ _) (fun r9 M9 e9 => ?_))
  obtain ⟨rfl, rfl⟩ := e9
  refine aw_if_eq (tgt := 45) dX9_person_6 (by decide) (fun z => ?_) (fun z => ?_)
  · replace h := h.1 z
    exact h
  · replace h := h.2 z
    refine aw_iload_n dX9_person_9 rfl rfl ?_
    refine aw_iconst (v := 1) dX9_person_10 (by decide) ?_
    refine aw_bipush (v := 99) dX9_person_11 (by decide) ?_
    refine aw_callS (mi := iX9_within) (av := [.int x2, .int 1, .int 99]) (st := []) dX9_person_13 ml_X9_85 kX9_within rfl rfl (Nat.le_of_ble_eq_true rfl) (AM.mono (p_X9_within _ _ _) (fun r9 M9 e9 => ?_))
    obtain ⟨rfl, rfl⟩ := e9
    refine aw_if_eq (tgt := 45) dX9_person_16 (by decide) (fun z => ?_) (fun z => ?_)
    · replace h := h.1 z
      exact h
    · replace h := h.2 z
      refine aw_iload_n dX9_person_19 rfl rfl ?_
      refine aw_iconst (v := 0) dX9_person_20 (by decide) ?_
      refine aw_bipush (v := 99) dX9_person_21 (by decide) ?_
      refine aw_callS (mi := iX9_within) (av := [.int x3, .int 0, .int 99]) (st := []) dX9_person_23 ml_X9_85 kX9_within rfl rfl (Nat.le_of_ble_eq_true rfl) (AM.mono (p_X9_within _ _ _) (fun r9 M9 e9 => ?_))
      obtain ⟨rfl, rfl⟩ := e9
      refine aw_if_eq (tgt := 45) dX9_person_26 (by decide) (fun z => ?_) (fun z => ?_)
      · replace h := h.1 z
        exact h
      · replace h := h.2 z
        refine aw_iload dX9_person_29 rfl ?_
        refine aw_iconst (v := 0) dX9_person_31 (by decide) ?_
        refine aw_sipush (v := 999) dX9_person_32 (by decide) ?_
        refine aw_callS (mi := iX9_within) (av := [.int x4, .int 0, .int 999]) (st := []) dX9_person_35 ml_X9_85 kX9_within rfl rfl (Nat.le_of_ble_eq_true rfl) (AM.mono (p_X9_within _ _ _) (fun r9 M9 e9 => ?_))
        obtain ⟨rfl, rfl⟩ := e9
        refine aw_if_eq (tgt := 45) dX9_person_38 (by decide) (fun z => ?_) (fun z => ?_)
        · replace h := h.1 z
          exact h
        · replace h := h.2 z
          refine aw_iconst (v := 1) dX9_person_41 (by decide) ?_
          refine aw_goto (tgt := 46) dX9_person_42 (by decide) ?_
          exact h
theorem bX9_person_45 {d : Nat} {Q : Option Int32 → Mem → Prop} (M : Mem) (x1 x2 x3 x4 : Int32) (h : AX9_person (d + 1) Q 46 [lR 0, lI x1, lI x2, lI x3, lI x4, none] [.int 0] M) : AX9_person (d + 1) Q 45 [lR 0, lI x1, lI x2, lI x3, lI x4, none] [] M := by
  refine aw_iconst (v := 0) dX9_person_45 (by decide) ?_
  exact h
theorem bX9_person_46 {d : Nat} {Q : Option Int32 → Mem → Prop} (M : Mem) (x1 x2 x3 x4 s0 : Int32) (h : (s0 = 0 → Q (some (-1)) M) ∧ (¬ s0 = 0 → ((M 1 7) < 16 → AMi d iX8_addPerson [.ref 1, .int x1, .int x2, .int x3, .int x4] M (fun r1 M1 => Q (some r1) M1)) ∧ (¬ (M 1 7) < 16 → Q (some (-1)) M))) : AX9_person (d + 1) Q 46 [lR 0, lI x1, lI x2, lI x3, lI x4, none] [.int s0] M := by
  refine aw_istore (L2 := [lR 0, lI x1, lI x2, lI x3, lI x4, lI s0]) dX9_person_46 (by decide) rfl ?_
  refine aw_iload dX9_person_48 rfl ?_
  refine aw_if_eq (tgt := 65) dX9_person_50 (by decide) (fun z => ?_) (fun z => ?_)
  · replace h := h.1 z
    refine aw_iconst (v := (-1)) dX9_person_65 (by decide) ?_
    exact aw_iret dX9_person_66 rfl rfl h
  · replace h := h.2 z
    refine aw_aload_n dX9_person_53 rfl rfl ?_
    refine aw_getf dX9_person_54 fl_X9_12 (by decide) ce_0 rfl (v := .ref 1) rfl ?_
    refine aw_getf dX9_person_57 fl_X9_89 (by decide) ce_1 rfl (v := .int (M 1 7)) rfl ?_
    refine aw_bipush (v := 16) dX9_person_60 (by decide) ?_
    refine aw_icmp_lt (tgt := 67) dX9_person_62 (by decide) (fun z => ?_) (fun z => ?_)
    · replace h := h.1 z
      refine aw_aload_n dX9_person_67 rfl rfl ?_
      refine aw_getf dX9_person_68 fl_X9_12 (by decide) ce_0 rfl (v := .ref 1) rfl ?_
      refine aw_iload_n dX9_person_71 rfl rfl ?_
      refine aw_iload_n dX9_person_72 rfl rfl ?_
      refine aw_iload_n dX9_person_73 rfl rfl ?_
      refine aw_iload dX9_person_74 rfl ?_
      refine aw_callV (mi := iX8_addPerson) (av := [.int x1, .int x2, .int x3, .int x4]) (st := []) dX9_person_76 ml_X9_93 kX8_addPerson (by decide) ce_1 clX8 rfl rfl rfl (Nat.le_of_ble_eq_true rfl) (AM.mono h (fun r9 M1 h => ?_))
      obtain ⟨r1, rfl, h⟩ := h
      exact aw_iret dX9_person_79 rfl rfl h
    · replace h := h.2 z
      refine aw_iconst (v := (-1)) dX9_person_65 (by decide) ?_
      exact aw_iret dX9_person_66 rfl rfl h
abbrev AX9_heels (d : Nat) (Q : Option Int32 → Mem → Prop) (pc : Nat) (L : List (Option Value)) (st : List Value) (M : Mem) : Prop := AW none RX9 cX9_heels 3 (some .boolean) d Q pc L st M
theorem eX9_heels {d : Nat} {Q : Option Int32 → Mem → Prop} (M : Mem) (x1 x2 : Int32) (h : AX9_heels d Q 0 [lR 0, lI x1, lI x2] [] M) : AM d iX9_heels [.ref 0, .int x1, .int x2] M Q := AM.of2 (by decide) rfl rfl h
theorem bX9_heels_0 {d : Nat} {Q : Option Int32 → Mem → Prop} (M : Mem) (x1 x2 : Int32) (h : ((livV (M 1 7) (M 1 8) x1) = 0 → Q (some 0) M) ∧ (¬ (livV (M 1 7) (M 1 8) x1) = 0 → (¬ (inV x2 0 9) = 0 → (vp_in x1 16) ∧ (Q (some 1) (wr M 5 (ix x1) x2))) ∧ ((inV x2 0 9) = 0 → Q (some 0) M))) : AX9_heels (d + 2) Q 0 [lR 0, lI x1, lI x2] [] M := by
  refine aw_aload_n dX9_heels_0 rfl rfl ?_
  refine aw_getf dX9_heels_1 fl_X9_12 (by decide) ce_0 rfl (v := .ref 1) rfl ?_
  refine aw_iload_n dX9_heels_4 rfl rfl ?_
  refine aw_callV (mi := iX8_lives) (av := [.int x1]) (st := []) dX9_heels_5 ml_X9_97 kX8_lives (by decide) ce_1 clX8 rfl rfl rfl (Nat.le_of_ble_eq_true rfl) (AM.mono (p_X8_lives _ isV_1) (fun r9 M9 e9 => ?_))
  obtain ⟨rfl, rfl⟩ := e9
  refine aw_if_eq (tgt := 21) dX9_heels_8 (by decide) (fun z => ?_) (fun z => ?_)
  · replace h := h.1 z
    refine aw_iconst (v := 0) dX9_heels_21 (by decide) ?_
    exact aw_iret dX9_heels_22 rfl (nar_b (by decide)) h
  · replace h := h.2 z
    refine aw_iload_n dX9_heels_11 rfl rfl ?_
    refine aw_iconst (v := 0) dX9_heels_12 (by decide) ?_
    refine aw_bipush (v := 9) dX9_heels_13 (by decide) ?_
    refine aw_callS (mi := iX9_within) (av := [.int x2, .int 0, .int 9]) (st := []) dX9_heels_15 ml_X9_85 kX9_within rfl rfl (Nat.le_of_ble_eq_true rfl) (AM.mono (p_X9_within _ _ _) (fun r9 M9 e9 => ?_))
    obtain ⟨rfl, rfl⟩ := e9
    refine aw_if_ne (tgt := 23) dX9_heels_18 (by decide) (fun z => ?_) (fun z => ?_)
    · replace h := h.1 z
      refine aw_aload_n dX9_heels_23 rfl rfl ?_
      refine aw_getf dX9_heels_24 fl_X9_12 (by decide) ce_0 rfl (v := .ref 1) rfl ?_
      refine aw_getf dX9_heels_27 fl_X9_101 (by decide) ce_1 rfl (v := .ref 5) rfl ?_
      refine aw_iload_n dX9_heels_30 rfl rfl ?_
      refine aw_iload_n dX9_heels_31 rfl rfl ?_
      obtain ⟨h9, h⟩ := h
      refine aw_iast dX9_heels_32 (by decide) ce_5 h9 ?_
      refine aw_iconst (v := 1) dX9_heels_33 (by decide) ?_
      exact aw_iret dX9_heels_34 rfl (nar_b (by decide)) h
    · replace h := h.2 z
      refine aw_iconst (v := 0) dX9_heels_21 (by decide) ?_
      exact aw_iret dX9_heels_22 rfl (nar_b (by decide)) h
abbrev AX9_dies (d : Nat) (Q : Option Int32 → Mem → Prop) (pc : Nat) (L : List (Option Value)) (st : List Value) (M : Mem) : Prop := AW none RX9 cX9_dies 2 (some .boolean) d Q pc L st M
theorem eX9_dies {d : Nat} {Q : Option Int32 → Mem → Prop} (M : Mem) (x1 : Int32) (h : AX9_dies d Q 0 [lR 0, lI x1] [] M) : AM d iX9_dies [.ref 0, .int x1] M Q := AM.of2 (by decide) rfl rfl h
theorem bX9_dies_0 {d : Nat} {Q : Option Int32 → Mem → Prop} (M : Mem) (x1 : Int32) (h : (¬ (livV (M 1 7) (M 1 8) x1) = 0 → Q (some 1) (wr M 1 8 ((M 1 8) &&& (((1 : Int32) <<< (x1 &&& 31)) ^^^ (-1))))) ∧ ((livV (M 1 7) (M 1 8) x1) = 0 → Q (some 0) M)) : AX9_dies (d + 2) Q 0 [lR 0, lI x1] [] M := by
  refine aw_aload_n dX9_dies_0 rfl rfl ?_
  refine aw_getf dX9_dies_1 fl_X9_12 (by decide) ce_0 rfl (v := .ref 1) rfl ?_
  refine aw_iload_n dX9_dies_4 rfl rfl ?_
  refine aw_callV (mi := iX8_lives) (av := [.int x1]) (st := []) dX9_dies_5 ml_X9_97 kX8_lives (by decide) ce_1 clX8 rfl rfl rfl (Nat.le_of_ble_eq_true rfl) (AM.mono (p_X8_lives _ isV_1) (fun r9 M9 e9 => ?_))
  obtain ⟨rfl, rfl⟩ := e9
  refine aw_if_ne (tgt := 13) dX9_dies_8 (by decide) (fun z => ?_) (fun z => ?_)
  · replace h := h.1 z
    refine aw_aload_n dX9_dies_13 rfl rfl ?_
    refine aw_getf dX9_dies_14 fl_X9_12 (by decide) ce_0 rfl (v := .ref 1) rfl ?_
    refine aw_dup dX9_dies_17 rfl ?_
    refine aw_getf dX9_dies_18 fl_X9_104 (by decide) ce_1 rfl (v := .int (M 1 8)) rfl ?_
    refine aw_iconst (v := 1) dX9_dies_21 (by decide) ?_
    refine aw_iload_n dX9_dies_22 rfl rfl ?_
    refine aw_ishl dX9_dies_23 ?_
    refine aw_iconst (v := (-1)) dX9_dies_24 (by decide) ?_
    refine aw_ixor dX9_dies_25 ?_
    refine aw_iand dX9_dies_26 ?_
    refine aw_putf dX9_dies_27 fp_X9_104 (by decide) ce_1 rfl rfl rfl ?_
    refine aw_iconst (v := 1) dX9_dies_30 (by decide) ?_
    exact aw_iret dX9_dies_31 rfl (nar_b (by decide)) h
  · replace h := h.2 z
    refine aw_iconst (v := 0) dX9_dies_11 (by decide) ?_
    exact aw_iret dX9_dies_12 rfl (nar_b (by decide)) h
abbrev AX9_feed (d : Nat) (Q : Option Int32 → Mem → Prop) (pc : Nat) (L : List (Option Value)) (st : List Value) (M : Mem) : Prop := AW none RX9 cX9_feed 6 (some .int) d Q pc L st M
theorem eX9_feed {d : Nat} {Q : Option Int32 → Mem → Prop} (M : Mem) (x1 x2 x3 x4 x5 : Int32) (h : AX9_feed d Q 0 [lR 0, lI x1, lI x2, lI x3, lI x4, lI x5] [] M) : AM d iX9_feed [.ref 0, .int x1, .int x2, .int x3, .int x4, .int x5] M Q := AM.of2 (by decide) rfl rfl h
theorem bX9_feed_0 {d : Nat} {Q : Option Int32 → Mem → Prop} (M : Mem) (x1 x2 x3 x4 x5 : Int32) (h : ((M 34 1) ≤ 180 → AMv d iX7_addWord [.ref 34, .int x1] M (fun M1 => AMv d iX7_addWord [.ref 34, .int x2] M1 (fun M2 => AMv d iX7_addWord [.ref 34, .int x3] M2 (fun M3 => AMv d iX7_addWord [.ref 34, .int x4] M3 (fun M4 => AMv d iX7_addWord [.ref 34, .int x5] M4 (fun M5 => Q (some (M5 34 1)) M5)))))) ∧ (¬ (M 34 1) ≤ 180 → Q (some (-1)) M)) : AX9_feed (d + 1) Q 0 [lR 0, lI x1, lI x2, lI x3, lI x4, lI x5] [] M := by
  refine aw_aload_n dX9_feed_0 rfl rfl ?_
  refine aw_getf dX9_feed_1 fl_X9_25 (by decide) ce_0 rfl (v := .ref 34) rfl ?_
  refine aw_getf dX9_feed_4 fl_X9_107 (by decide) ce_34 rfl (v := .int (M 34 1)) rfl ?_
  refine aw_sipush (v := 180) dX9_feed_7 (by decide) ?_
  refine aw_icmp_le (tgt := 15) dX9_feed_10 (by decide) (fun z => ?_) (fun z => ?_)
  · replace h := h.1 z
    refine aw_aload_n dX9_feed_15 rfl rfl ?_
    refine aw_getf dX9_feed_16 fl_X9_25 (by decide) ce_0 rfl (v := .ref 34) rfl ?_
    refine aw_iload_n dX9_feed_19 rfl rfl ?_
    refine aw_callV (mi := iX7_addWord) (av := [.int x1]) (st := []) dX9_feed_20 ml_X9_110 kX7_addWord (by decide) ce_34 clX7 rfl rfl rfl (Nat.le_of_ble_eq_true rfl) (AM.mono h (fun r9 M1 h => ?_))
    obtain ⟨rfl, h⟩ := h
    refine aw_aload_n dX9_feed_23 rfl rfl ?_
    refine aw_getf dX9_feed_24 fl_X9_25 (by decide) ce_0 rfl (v := .ref 34) rfl ?_
    refine aw_iload_n dX9_feed_27 rfl rfl ?_
    refine aw_callV (mi := iX7_addWord) (av := [.int x2]) (st := []) dX9_feed_28 ml_X9_110 kX7_addWord (by decide) ce_34 clX7 rfl rfl rfl (Nat.le_of_ble_eq_true rfl) (AM.mono h (fun r9 M2 h => ?_))
    obtain ⟨rfl, h⟩ := h
    refine aw_aload_n dX9_feed_31 rfl rfl ?_
    refine aw_getf dX9_feed_32 fl_X9_25 (by decide) ce_0 rfl (v := .ref 34) rfl ?_
    refine aw_iload_n dX9_feed_35 rfl rfl ?_
    refine aw_callV (mi := iX7_addWord) (av := [.int x3]) (st := []) dX9_feed_36 ml_X9_110 kX7_addWord (by decide) ce_34 clX7 rfl rfl rfl (Nat.le_of_ble_eq_true rfl) (AM.mono h (fun r9 M3 h => ?_))
    obtain ⟨rfl, h⟩ := h
    refine aw_aload_n dX9_feed_39 rfl rfl ?_
    refine aw_getf dX9_feed_40 fl_X9_25 (by decide) ce_0 rfl (v := .ref 34) rfl ?_
    refine aw_iload dX9_feed_43 rfl ?_
    refine aw_callV (mi := iX7_addWord) (av := [.int x4]) (st := []) dX9_feed_45 ml_X9_110 kX7_addWord (by decide) ce_34 clX7 rfl rfl rfl (Nat.le_of_ble_eq_true rfl) (AM.mono h (fun r9 M4 h => ?_))
    obtain ⟨rfl, h⟩ := h
    refine aw_aload_n dX9_feed_48 rfl rfl ?_
    refine aw_getf dX9_feed_49 fl_X9_25 (by decide) ce_0 rfl (v := .ref 34) rfl ?_
    refine aw_iload dX9_feed_52 rfl ?_
    refine aw_callV (mi := iX7_addWord) (av := [.int x5]) (st := []) dX9_feed_54 ml_X9_110 kX7_addWord (by decide) ce_34 clX7 rfl rfl rfl (Nat.le_of_ble_eq_true rfl) (AM.mono h (fun r9 M5 h => ?_))
    obtain ⟨rfl, h⟩ := h
    refine aw_aload_n dX9_feed_57 rfl rfl ?_
    refine aw_getf dX9_feed_58 fl_X9_25 (by decide) ce_0 rfl (v := .ref 34) rfl ?_
    refine aw_getf dX9_feed_61 fl_X9_107 (by decide) ce_34 rfl (v := .int (M5 34 1)) rfl ?_
    exact aw_iret dX9_feed_64 rfl rfl h
  · replace h := h.2 z
    refine aw_iconst (v := (-1)) dX9_feed_13 (by decide) ?_
    exact aw_iret dX9_feed_14 rfl rfl h
abbrev AX9_law (d : Nat) (Q : Option Int32 → Mem → Prop) (pc : Nat) (L : List (Option Value)) (st : List Value) (M : Mem) : Prop := AW none RX9 cX9_law 4 (some .int) d Q pc L st M
theorem eX9_law {d : Nat} {Q : Option Int32 → Mem → Prop} (M : Mem) (x1 x2 : Int32) (h : AX9_law d Q 0 [lR 0, lI x1, lI x2, none] [] M) : AM d iX9_law [.ref 0, .int x1, .int x2] M Q := AM.of2 (by decide) rfl rfl h
theorem bX9_law_0 {d : Nat} {Q : Option Int32 → Mem → Prop} (M : Mem) (x1 x2 : Int32) (h : ((inV x1 0 1) = 0 → Q (some (-1)) M) ∧ (¬ (inV x1 0 1) = 0 → ((inV x2 1 160) = 0 → Q (some (-1)) M) ∧ (¬ (inV x2 1 160) = 0 → (x2 ≤ (M 34 1) → AMi d iX3_readText [.ref 61, .int x2] M (fun r1 M1 => (r1 < 0 → Q (some r1) (wr M1 34 1 0)) ∧ (¬ r1 < 0 → ∃ la1, isA la1 ∧ vp_in x1 2 ∧ ([37, 45] : List Nat)[ix x1]? = some la1 ∧ (AMv d iX2_copyFrom [.ref la1, .ref 53] (wr M1 34 1 0) (fun M3 => Q (some r1) M3))))) ∧ (¬ x2 ≤ (M 34 1) → Q (some (-1)) M)))) : AX9_law (d + 1) Q 0 [lR 0, lI x1, lI x2, none] [] M := by
  refine aw_iload_n dX9_law_0 rfl rfl ?_
  refine aw_iconst (v := 0) dX9_law_1 (by decide) ?_
  refine aw_iconst (v := 1) dX9_law_2 (by decide) ?_
  refine aw_callS (mi := iX9_within) (av := [.int x1, .int 0, .int 1]) (st := []) dX9_law_3 ml_X9_85 kX9_within rfl rfl (Nat.le_of_ble_eq_true rfl) (AM.mono (p_X9_within _ _ _) (fun r9 M9 e9 => ?_))
  obtain ⟨rfl, rfl⟩ := e9
  refine aw_if_eq (tgt := 31) dX9_law_6 (by decide) (fun z => ?_) (fun z => ?_)
  · replace h := h.1 z
    refine aw_iconst (v := (-1)) dX9_law_31 (by decide) ?_
    exact aw_iret dX9_law_32 rfl rfl h
  · replace h := h.2 z
    refine aw_iload_n dX9_law_9 rfl rfl ?_
    refine aw_iconst (v := 1) dX9_law_10 (by decide) ?_
    refine aw_sipush (v := 160) dX9_law_11 (by decide) ?_
    refine aw_callS (mi := iX9_within) (av := [.int x2, .int 1, .int 160]) (st := []) dX9_law_14 ml_X9_85 kX9_within rfl rfl (Nat.le_of_ble_eq_true rfl) (AM.mono (p_X9_within _ _ _) (fun r9 M9 e9 => ?_))
    obtain ⟨rfl, rfl⟩ := e9
    refine aw_if_eq (tgt := 31) dX9_law_17 (by decide) (fun z => ?_) (fun z => ?_)
    · replace h := h.1 z
      refine aw_iconst (v := (-1)) dX9_law_31 (by decide) ?_
      exact aw_iret dX9_law_32 rfl rfl h
    · replace h := h.2 z
      refine aw_iload_n dX9_law_20 rfl rfl ?_
      refine aw_aload_n dX9_law_21 rfl rfl ?_
      refine aw_getf dX9_law_22 fl_X9_25 (by decide) ce_0 rfl (v := .ref 34) rfl ?_
      refine aw_getf dX9_law_25 fl_X9_107 (by decide) ce_34 rfl (v := .int (M 34 1)) rfl ?_
      refine aw_icmp_le (tgt := 33) dX9_law_28 (by decide) (fun z => ?_) (fun z => ?_)
      · replace h := h.1 z
        refine aw_aload_n dX9_law_33 rfl rfl ?_
        refine aw_getf dX9_law_34 fl_X9_45 (by decide) ce_0 rfl (v := .ref 61) rfl ?_
        refine aw_iload_n dX9_law_37 rfl rfl ?_
        refine aw_callV (mi := iX3_readText) (av := [.int x2]) (st := []) dX9_law_38 ml_X9_114 kX3_readText (by decide) ce_61 clX3 rfl rfl rfl (Nat.le_of_ble_eq_true rfl) (AM.mono h (fun r9 M1 h => ?_))
        obtain ⟨r1, rfl, h⟩ := h
        refine aw_istore_n (L2 := [lR 0, lI x1, lI x2, lI r1]) dX9_law_41 rfl (by decide) rfl ?_
        refine aw_aload_n dX9_law_42 rfl rfl ?_
        refine aw_getf dX9_law_43 fl_X9_25 (by decide) ce_0 rfl (v := .ref 34) rfl ?_
        refine aw_iconst (v := 0) dX9_law_46 (by decide) ?_
        refine aw_putf dX9_law_47 fp_X9_107 (by decide) ce_34 rfl rfl rfl ?_
        refine aw_iload_n dX9_law_50 rfl rfl ?_
        refine aw_if_lt (tgt := 67) dX9_law_51 (by decide) (fun z => ?_) (fun z => ?_)
        · replace h := h.1 z
          refine aw_iload_n dX9_law_67 rfl rfl ?_
          exact aw_iret dX9_law_68 rfl rfl h
        · replace h := h.2 z
          refine aw_aload_n dX9_law_54 rfl rfl ?_
          refine aw_getf dX9_law_55 fl_X9_31 (by decide) ce_0 rfl (v := .ref 36) rfl ?_
          refine aw_iload_n dX9_law_58 rfl rfl ?_
          obtain ⟨la1, h_la1, h8, h9, h⟩ := h
          refine aw_aald dX9_law_59 (by decide) ce_36 h8 h9 ?_
          refine aw_aload_n dX9_law_60 rfl rfl ?_
          refine aw_getf dX9_law_61 fl_X9_36 (by decide) ce_0 rfl (v := .ref 53) rfl ?_
          refine aw_callV (mi := iX2_copyFrom) (av := [.ref 53]) (st := []) dX9_law_64 ml_X9_118 kX2_copyFrom (kA0 h_la1) (cA0 h_la1) clX2 rfl rfl rfl (Nat.le_of_ble_eq_true rfl) (AM.mono h (fun r9 M3 h => ?_))
          obtain ⟨rfl, h⟩ := h
          refine aw_iload_n dX9_law_67 rfl rfl ?_
          exact aw_iret dX9_law_68 rfl rfl h
      · replace h := h.2 z
        refine aw_iconst (v := (-1)) dX9_law_31 (by decide) ?_
        exact aw_iret dX9_law_32 rfl rfl h
abbrev AX9_tall (d : Nat) (Q : Option Int32 → Mem → Prop) (pc : Nat) (L : List (Option Value)) (st : List Value) (M : Mem) : Prop := AW none RX9 cX9_tall 2 (some .int) d Q pc L st M
theorem eX9_tall {d : Nat} {Q : Option Int32 → Mem → Prop} (M : Mem) (x1 : Int32) (h : AX9_tall d Q 0 [lR 0, lI x1] [] M) : AM d iX9_tall [.ref 0, .int x1] M Q := AM.of2 (by decide) rfl rfl h
theorem bX9_tall_0 {d : Nat} {Q : Option Int32 → Mem → Prop} (M : Mem) (x1 : Int32) (h : ((isPV (M 1 7) x1) = 0 → Q (some (-1)) M) ∧ (¬ (isPV (M 1 7) x1) = 0 → AMi d iX8_heightOf [.ref 1, .int x1] M (fun r1 M1 => Q (some r1) M1))) : AX9_tall (d + 1) Q 0 [lR 0, lI x1] [] M := by
  refine aw_aload_n dX9_tall_0 rfl rfl ?_
  refine aw_getf dX9_tall_1 fl_X9_12 (by decide) ce_0 rfl (v := .ref 1) rfl ?_
  refine aw_iload_n dX9_tall_4 rfl rfl ?_
  refine aw_callV (mi := iX8_isPerson) (av := [.int x1]) (st := []) dX9_tall_5 ml_X9_122 kX8_isPerson (by decide) ce_1 clX8 rfl rfl rfl (Nat.le_of_ble_eq_true rfl) (AM.mono (p_X8_isPerson _ isV_1) (fun r9 M9 e9 => ?_))
  obtain ⟨rfl, rfl⟩ := e9
  refine aw_if_eq (tgt := 22) dX9_tall_8 (by decide) (fun z => ?_) (fun z => ?_)
  · replace h := h.1 z
    refine aw_iconst (v := (-1)) dX9_tall_22 (by decide) ?_
    exact aw_iret dX9_tall_23 rfl rfl h
  · replace h := h.2 z
    refine aw_aload_n dX9_tall_11 rfl rfl ?_
    refine aw_getf dX9_tall_12 fl_X9_12 (by decide) ce_0 rfl (v := .ref 1) rfl ?_
    refine aw_iload_n dX9_tall_15 rfl rfl ?_
    refine aw_callV (mi := iX8_heightOf) (av := [.int x1]) (st := []) dX9_tall_16 ml_X9_125 kX8_heightOf (by decide) ce_1 clX8 rfl rfl rfl (Nat.le_of_ble_eq_true rfl) (AM.mono h (fun r9 M1 h => ?_))
    obtain ⟨r1, rfl, h⟩ := h
    refine aw_goto (tgt := 23) dX9_tall_19 (by decide) ?_
    exact aw_iret dX9_tall_23 rfl rfl h
abbrev AX9_top (d : Nat) (Q : Option Int32 → Mem → Prop) (pc : Nat) (L : List (Option Value)) (st : List Value) (M : Mem) : Prop := AW none RX9 cX9_top 1 (some .int) d Q pc L st M
theorem eX9_top {d : Nat} {Q : Option Int32 → Mem → Prop} (M : Mem) (h : AX9_top d Q 0 [lR 0] [] M) : AM d iX9_top [.ref 0] M Q := AM.of2 (by decide) rfl rfl h
theorem bX9_top_0 {d : Nat} {Q : Option Int32 → Mem → Prop} (M : Mem) (h : AMi d iX8_tallestOne [.ref 1] M (fun r1 M1 => Q (some r1) M1)) : AX9_top (d + 1) Q 0 [lR 0] [] M := by
  refine aw_aload_n dX9_top_0 rfl rfl ?_
  refine aw_getf dX9_top_1 fl_X9_12 (by decide) ce_0 rfl (v := .ref 1) rfl ?_
  refine aw_callV (mi := iX8_tallestOne) (av := []) (st := []) dX9_top_4 ml_X9_128 kX8_tallestOne (by decide) ce_1 clX8 rfl rfl rfl (Nat.le_of_ble_eq_true rfl) (AM.mono h (fun r9 M1 h => ?_))
  obtain ⟨r1, rfl, h⟩ := h
  exact aw_iret dX9_top_7 rfl rfl h
abbrev AX9_step (d : Nat) (Q : Option Int32 → Mem → Prop) (pc : Nat) (L : List (Option Value)) (st : List Value) (M : Mem) : Prop := AW none RX9 cX9_step 3 (some .int) d Q pc L st M
theorem eX9_step {d : Nat} {Q : Option Int32 → Mem → Prop} (M : Mem) (x1 x2 : Int32) (h : AX9_step d Q 0 [lR 0, lI x1, lI x2] [] M) : AM d iX9_step [.ref 0, .int x1, .int x2] M Q := AM.of2 (by decide) rfl rfl h
theorem bX9_step_0 {d : Nat} {Q : Option Int32 → Mem → Prop} (M : Mem) (x1 x2 : Int32) (h : ((isPV (M 1 7) x1) = 0 → Q (some (-1)) M) ∧ (¬ (isPV (M 1 7) x1) = 0 → ((isPV (M 1 7) x2) = 0 → Q (some (-1)) M) ∧ (¬ (isPV (M 1 7) x2) = 0 → (¬ x1 = x2 → AMv d iX6_reckon [.ref 62, .ref 1, .ref 37] M (fun M1 => AMi d iX6_leads [.ref 62, .int x1, .int x2] M1 (fun r2 M2 => (r2 = 0 → Q (some (-2)) M2) ∧ (¬ r2 = 0 → AMi d iX6_priceByLaw [.ref 62, .int x1, .int x2] M2 (fun r3 M3 => Q (some r3) M3))))) ∧ (x1 = x2 → Q (some (-1)) M)))) : AX9_step (d + 1) Q 0 [lR 0, lI x1, lI x2] [] M := by
  refine aw_aload_n dX9_step_0 rfl rfl ?_
  refine aw_getf dX9_step_1 fl_X9_12 (by decide) ce_0 rfl (v := .ref 1) rfl ?_
  refine aw_iload_n dX9_step_4 rfl rfl ?_
  refine aw_callV (mi := iX8_isPerson) (av := [.int x1]) (st := []) dX9_step_5 ml_X9_122 kX8_isPerson (by decide) ce_1 clX8 rfl rfl rfl (Nat.le_of_ble_eq_true rfl) (AM.mono (p_X8_isPerson _ isV_1) (fun r9 M9 e9 => ?_))
  obtain ⟨rfl, rfl⟩ := e9
  refine aw_if_eq (tgt := 27) dX9_step_8 (by decide) (fun z => ?_) (fun z => ?_)
  · replace h := h.1 z
    refine aw_iconst (v := (-1)) dX9_step_27 (by decide) ?_
    exact aw_iret dX9_step_28 rfl rfl h
  · replace h := h.2 z
    refine aw_aload_n dX9_step_11 rfl rfl ?_
    refine aw_getf dX9_step_12 fl_X9_12 (by decide) ce_0 rfl (v := .ref 1) rfl ?_
    refine aw_iload_n dX9_step_15 rfl rfl ?_
    refine aw_callV (mi := iX8_isPerson) (av := [.int x2]) (st := []) dX9_step_16 ml_X9_122 kX8_isPerson (by decide) ce_1 clX8 rfl rfl rfl (Nat.le_of_ble_eq_true rfl) (AM.mono (p_X8_isPerson _ isV_1) (fun r9 M9 e9 => ?_))
    obtain ⟨rfl, rfl⟩ := e9
    refine aw_if_eq (tgt := 27) dX9_step_19 (by decide) (fun z => ?_) (fun z => ?_)
    · replace h := h.1 z
      refine aw_iconst (v := (-1)) dX9_step_27 (by decide) ?_
      exact aw_iret dX9_step_28 rfl rfl h
    · replace h := h.2 z
      refine aw_iload_n dX9_step_22 rfl rfl ?_
      refine aw_iload_n dX9_step_23 rfl rfl ?_
      refine aw_icmp_ne (tgt := 29) dX9_step_24 (by decide) (fun z => ?_) (fun z => ?_)
      · replace h := h.1 z
        refine aw_aload_n dX9_step_29 rfl rfl ?_
        refine aw_getf dX9_step_30 fl_X9_54 (by decide) ce_0 rfl (v := .ref 62) rfl ?_
        refine aw_aload_n dX9_step_33 rfl rfl ?_
        refine aw_getf dX9_step_34 fl_X9_12 (by decide) ce_0 rfl (v := .ref 1) rfl ?_
        refine aw_aload_n dX9_step_37 rfl rfl ?_
        refine aw_getf dX9_step_38 fl_X9_31 (by decide) ce_0 rfl (v := .ref 36) rfl ?_
        refine aw_iconst (v := 0) dX9_step_41 (by decide) ?_
        refine aw_aald dX9_step_42 (by decide) ce_36 (by unfold vp_in; decide) rfl ?_
        refine aw_callV (mi := iX6_reckon) (av := [.ref 1, .ref 37]) (st := []) dX9_step_43 ml_X9_132 kX6_reckon (by decide) ce_62 clX6 rfl rfl rfl (Nat.le_of_ble_eq_true rfl) (AM.mono h (fun r9 M1 h => ?_))
        obtain ⟨rfl, h⟩ := h
        refine aw_aload_n dX9_step_46 rfl rfl ?_
        refine aw_getf dX9_step_47 fl_X9_54 (by decide) ce_0 rfl (v := .ref 62) rfl ?_
        refine aw_iload_n dX9_step_50 rfl rfl ?_
        refine aw_iload_n dX9_step_51 rfl rfl ?_
        refine aw_callV (mi := iX6_leads) (av := [.int x1, .int x2]) (st := []) dX9_step_52 ml_X9_135 kX6_leads (by decide) ce_62 clX6 rfl rfl rfl (Nat.le_of_ble_eq_true rfl) (AM.mono h (fun r9 M2 h => ?_))
        obtain ⟨r2, rfl, h⟩ := h
        refine aw_if_eq (tgt := 70) dX9_step_55 (by decide) (fun z => ?_) (fun z => ?_)
        · replace h := h.1 z
          refine aw_bipush (v := (-2)) dX9_step_70 (by decide) ?_
          exact aw_iret dX9_step_72 rfl rfl h
        · replace h := h.2 z
          refine aw_aload_n dX9_step_58 rfl rfl ?_
          refine aw_getf dX9_step_59 fl_X9_54 (by decide) ce_0 rfl (v := .ref 62) rfl ?_
          refine aw_iload_n dX9_step_62 rfl rfl ?_
          refine aw_iload_n dX9_step_63 rfl rfl ?_
          refine aw_callV (mi := iX6_priceByLaw) (av := [.int x1, .int x2]) (st := []) dX9_step_64 ml_X9_139 kX6_priceByLaw (by decide) ce_62 clX6 rfl rfl rfl (Nat.le_of_ble_eq_true rfl) (AM.mono h (fun r9 M3 h => ?_))
          obtain ⟨r3, rfl, h⟩ := h
          refine aw_goto (tgt := 72) dX9_step_67 (by decide) ?_
          exact aw_iret dX9_step_72 rfl rfl h
      · replace h := h.2 z
        refine aw_iconst (v := (-1)) dX9_step_27 (by decide) ?_
        exact aw_iret dX9_step_28 rfl rfl h
abbrev AX9_oath (d : Nat) (Q : Option Int32 → Mem → Prop) (pc : Nat) (L : List (Option Value)) (st : List Value) (M : Mem) : Prop := AW none RX9 cX9_oath 3 (some .int) d Q pc L st M
theorem eX9_oath {d : Nat} {Q : Option Int32 → Mem → Prop} (M : Mem) (x1 x2 : Int32) (h : AX9_oath d Q 0 [lR 0, lI x1, lI x2] [] M) : AM d iX9_oath [.ref 0, .int x1, .int x2] M Q := AM.of2 (by decide) rfl rfl h
theorem bX9_oath_0 {d : Nat} {Q : Option Int32 → Mem → Prop} (M : Mem) (x1 x2 : Int32) (h : ((livV (M 1 7) (M 1 8) x1) = 0 → Q (some (-1)) M) ∧ (¬ (livV (M 1 7) (M 1 8) x1) = 0 → ((inV x2 0 3) = 0 → Q (some (-1)) M) ∧ (¬ (inV x2 0 3) = 0 → ((M 1 9) < 12 → AMi (d + 1) iX8_addOath [.ref 1, .int x1] M (fun r1 M1 => Q (some r1) M1)) ∧ (¬ (M 1 9) < 12 → Q (some (-1)) M)))) : AX9_oath (d + 2) Q 0 [lR 0, lI x1, lI x2] [] M := by
  refine aw_aload_n dX9_oath_0 rfl rfl ?_
  refine aw_getf dX9_oath_1 fl_X9_12 (by decide) ce_0 rfl (v := .ref 1) rfl ?_
  refine aw_iload_n dX9_oath_4 rfl rfl ?_
  refine aw_callV (mi := iX8_lives) (av := [.int x1]) (st := []) dX9_oath_5 ml_X9_97 kX8_lives (by decide) ce_1 clX8 rfl rfl rfl (Nat.le_of_ble_eq_true rfl) (AM.mono (p_X8_lives _ isV_1) (fun r9 M9 e9 => ?_))
  obtain ⟨rfl, rfl⟩ := e9
  refine aw_if_eq (tgt := 32) dX9_oath_8 (by decide) (fun z => ?_) (fun z => ?_)
  · replace h := h.1 z
    refine aw_iconst (v := (-1)) dX9_oath_32 (by decide) ?_
    exact aw_iret dX9_oath_33 rfl rfl h
  · replace h := h.2 z
    refine aw_iload_n dX9_oath_11 rfl rfl ?_
    refine aw_iconst (v := 0) dX9_oath_12 (by decide) ?_
    refine aw_iconst (v := 3) dX9_oath_13 (by decide) ?_
    refine aw_callS (mi := iX9_within) (av := [.int x2, .int 0, .int 3]) (st := []) dX9_oath_14 ml_X9_85 kX9_within rfl rfl (Nat.le_of_ble_eq_true rfl) (AM.mono (p_X9_within _ _ _) (fun r9 M9 e9 => ?_))
    obtain ⟨rfl, rfl⟩ := e9
    refine aw_if_eq (tgt := 32) dX9_oath_17 (by decide) (fun z => ?_) (fun z => ?_)
    · replace h := h.1 z
      refine aw_iconst (v := (-1)) dX9_oath_32 (by decide) ?_
      exact aw_iret dX9_oath_33 rfl rfl h
    · replace h := h.2 z
      refine aw_aload_n dX9_oath_20 rfl rfl ?_
      refine aw_getf dX9_oath_21 fl_X9_12 (by decide) ce_0 rfl (v := .ref 1) rfl ?_
      refine aw_getf dX9_oath_24 fl_X9_143 (by decide) ce_1 rfl (v := .int (M 1 9)) rfl ?_
      refine aw_bipush (v := 12) dX9_oath_27 (by decide) ?_
      refine aw_icmp_lt (tgt := 34) dX9_oath_29 (by decide) (fun z => ?_) (fun z => ?_)
      · replace h := h.1 z
        refine aw_aload_n dX9_oath_34 rfl rfl ?_
        refine aw_getf dX9_oath_35 fl_X9_12 (by decide) ce_0 rfl (v := .ref 1) rfl ?_
        refine aw_iload_n dX9_oath_38 rfl rfl ?_
        refine aw_callV (mi := iX8_addOath) (av := [.int x1]) (st := []) dX9_oath_39 ml_X9_146 kX8_addOath (by decide) ce_1 clX8 rfl rfl rfl (Nat.le_of_ble_eq_true rfl) (AM.mono h (fun r9 M1 h => ?_))
        obtain ⟨r1, rfl, h⟩ := h
        exact aw_iret dX9_oath_42 rfl rfl h
      · replace h := h.2 z
        refine aw_iconst (v := (-1)) dX9_oath_32 (by decide) ?_
        exact aw_iret dX9_oath_33 rfl rfl h
abbrev AX9_swear (d : Nat) (Q : Option Int32 → Mem → Prop) (pc : Nat) (L : List (Option Value)) (st : List Value) (M : Mem) : Prop := AW none RX9 cX9_swear 4 (some .int) d Q pc L st M
theorem eX9_swear {d : Nat} {Q : Option Int32 → Mem → Prop} (M : Mem) (x1 x2 : Int32) (h : AX9_swear d Q 0 [lR 0, lI x1, lI x2, none] [] M) : AM d iX9_swear [.ref 0, .int x1, .int x2] M Q := AM.of2 (by decide) rfl rfl h
theorem bX9_swear_0 {d : Nat} {Q : Option Int32 → Mem → Prop} (M : Mem) (x1 x2 : Int32) (h : ((isPV (M 1 9) x1) = 0 → Q (some (-1)) M) ∧ (¬ (isPV (M 1 9) x1) = 0 → (¬ (isPV (M 1 7) x2) = 0 → (vp_in x1 12) ∧ (((hasV (M 8 (ix x1)) x2) = 0 → AMv d iX6_reckon [.ref 62, .ref 1, .ref 37] M (fun M1 => AMv d iX6_reckonPrices [.ref 62] M1 (fun M2 => (vp_in x1 12) ∧ (AMi d iX6_leastAsked [.ref 62, .int (M2 8 (ix x1)), .int x2] M2 (fun r3 M3 => (¬ r3 = (-1) → (vp_in x1 12) ∧ ((vp_in x1 12) ∧ (Q (some r3) (wr M3 8 (ix x1) ((M3 8 (ix x1)) ||| ((1 : Int32) <<< (x2 &&& 31))))))) ∧ (r3 = (-1) → Q (some (-3)) M3)))))) ∧ (¬ (hasV (M 8 (ix x1)) x2) = 0 → Q (some (-2)) M))) ∧ ((isPV (M 1 7) x2) = 0 → Q (some (-1)) M))) : AX9_swear (d + 1) Q 0 [lR 0, lI x1, lI x2, none] [] M := by
  refine aw_aload_n dX9_swear_0 rfl rfl ?_
  refine aw_getf dX9_swear_1 fl_X9_12 (by decide) ce_0 rfl (v := .ref 1) rfl ?_
  refine aw_iload_n dX9_swear_4 rfl rfl ?_
  refine aw_callV (mi := iX8_isOath) (av := [.int x1]) (st := []) dX9_swear_5 ml_X9_149 kX8_isOath (by decide) ce_1 clX8 rfl rfl rfl (Nat.le_of_ble_eq_true rfl) (AM.mono (p_X8_isOath _ isV_1) (fun r9 M9 e9 => ?_))
  obtain ⟨rfl, rfl⟩ := e9
  refine aw_if_eq (tgt := 22) dX9_swear_8 (by decide) (fun z => ?_) (fun z => ?_)
  · replace h := h.1 z
    refine aw_iconst (v := (-1)) dX9_swear_22 (by decide) ?_
    exact aw_iret dX9_swear_23 rfl rfl h
  · replace h := h.2 z
    refine aw_aload_n dX9_swear_11 rfl rfl ?_
    refine aw_getf dX9_swear_12 fl_X9_12 (by decide) ce_0 rfl (v := .ref 1) rfl ?_
    refine aw_iload_n dX9_swear_15 rfl rfl ?_
    refine aw_callV (mi := iX8_isPerson) (av := [.int x2]) (st := []) dX9_swear_16 ml_X9_122 kX8_isPerson (by decide) ce_1 clX8 rfl rfl rfl (Nat.le_of_ble_eq_true rfl) (AM.mono (p_X8_isPerson _ isV_1) (fun r9 M9 e9 => ?_))
    obtain ⟨rfl, rfl⟩ := e9
    refine aw_if_ne (tgt := 24) dX9_swear_19 (by decide) (fun z => ?_) (fun z => ?_)
    · replace h := h.1 z
      refine aw_aload_n dX9_swear_24 rfl rfl ?_
      refine aw_getf dX9_swear_25 fl_X9_12 (by decide) ce_0 rfl (v := .ref 1) rfl ?_
      refine aw_getf dX9_swear_28 fl_X9_152 (by decide) ce_1 rfl (v := .ref 8) rfl ?_
      refine aw_iload_n dX9_swear_31 rfl rfl ?_
      obtain ⟨h9, h⟩ := h
      refine aw_iald dX9_swear_32 (by decide) ce_8 h9 ?_
      refine aw_iload_n dX9_swear_33 rfl rfl ?_
      refine aw_callS (mi := iX9_has) (av := [.int (M 8 (ix x1)), .int x2]) (st := []) dX9_swear_34 ml_X9_155 kX9_has rfl rfl (Nat.le_of_ble_eq_true rfl) (AM.mono (p_X9_has _ _) (fun r9 M9 e9 => ?_))
      obtain ⟨rfl, rfl⟩ := e9
      refine aw_if_eq (tgt := 43) dX9_swear_37 (by decide) (fun z => ?_) (fun z => ?_)
      · replace h := h.1 z
        refine aw_aload_n dX9_swear_43 rfl rfl ?_
        refine aw_getf dX9_swear_44 fl_X9_54 (by decide) ce_0 rfl (v := .ref 62) rfl ?_
        refine aw_aload_n dX9_swear_47 rfl rfl ?_
        refine aw_getf dX9_swear_48 fl_X9_12 (by decide) ce_0 rfl (v := .ref 1) rfl ?_
        refine aw_aload_n dX9_swear_51 rfl rfl ?_
        refine aw_getf dX9_swear_52 fl_X9_31 (by decide) ce_0 rfl (v := .ref 36) rfl ?_
        refine aw_iconst (v := 0) dX9_swear_55 (by decide) ?_
        refine aw_aald dX9_swear_56 (by decide) ce_36 (by unfold vp_in; decide) rfl ?_
        refine aw_callV (mi := iX6_reckon) (av := [.ref 1, .ref 37]) (st := []) dX9_swear_57 ml_X9_132 kX6_reckon (by decide) ce_62 clX6 rfl rfl rfl (Nat.le_of_ble_eq_true rfl) (AM.mono h (fun r9 M1 h => ?_))
        obtain ⟨rfl, h⟩ := h
        refine aw_aload_n dX9_swear_60 rfl rfl ?_
        refine aw_getf dX9_swear_61 fl_X9_54 (by decide) ce_0 rfl (v := .ref 62) rfl ?_
        refine aw_callV (mi := iX6_reckonPrices) (av := []) (st := []) dX9_swear_64 ml_X9_158 kX6_reckonPrices (by decide) ce_62 clX6 rfl rfl rfl (Nat.le_of_ble_eq_true rfl) (AM.mono h (fun r9 M2 h => ?_))
        obtain ⟨rfl, h⟩ := h
        refine aw_aload_n dX9_swear_67 rfl rfl ?_
        refine aw_getf dX9_swear_68 fl_X9_54 (by decide) ce_0 rfl (v := .ref 62) rfl ?_
        refine aw_aload_n dX9_swear_71 rfl rfl ?_
        refine aw_getf dX9_swear_72 fl_X9_12 (by decide) ce_0 rfl (v := .ref 1) rfl ?_
        refine aw_getf dX9_swear_75 fl_X9_152 (by decide) ce_1 rfl (v := .ref 8) rfl ?_
        refine aw_iload_n dX9_swear_78 rfl rfl ?_
        obtain ⟨h9, h⟩ := h
        refine aw_iald dX9_swear_79 (by decide) ce_8 h9 ?_
        refine aw_iload_n dX9_swear_80 rfl rfl ?_
        refine aw_callV (mi := iX6_leastAsked) (av := [.int (M2 8 (ix x1)), .int x2]) (st := []) dX9_swear_81 ml_X9_161 kX6_leastAsked (by decide) ce_62 clX6 rfl rfl rfl (Nat.le_of_ble_eq_true rfl) (AM.mono h (fun r9 M3 h => ?_))
        obtain ⟨r3, rfl, h⟩ := h
        refine aw_istore_n (L2 := [lR 0, lI x1, lI x2, lI r3]) dX9_swear_84 rfl (by decide) rfl ?_
        refine aw_iload_n dX9_swear_85 rfl rfl ?_
        refine aw_iconst (v := (-1)) dX9_swear_86 (by decide) ?_
        refine aw_icmp_ne (tgt := 93) dX9_swear_87 (by decide) (fun z => ?_) (fun z => ?_)
        · replace h := h.1 z
          refine aw_aload_n dX9_swear_93 rfl rfl ?_
          refine aw_getf dX9_swear_94 fl_X9_12 (by decide) ce_0 rfl (v := .ref 1) rfl ?_
          refine aw_getf dX9_swear_97 fl_X9_152 (by decide) ce_1 rfl (v := .ref 8) rfl ?_
          refine aw_iload_n dX9_swear_100 rfl rfl ?_
          refine aw_dup2 dX9_swear_101 rfl rfl ?_
          obtain ⟨h9, h⟩ := h
          refine aw_iald dX9_swear_102 (by decide) ce_8 h9 ?_
          refine aw_iconst (v := 1) dX9_swear_103 (by decide) ?_
          refine aw_iload_n dX9_swear_104 rfl rfl ?_
          refine aw_ishl dX9_swear_105 ?_
          refine aw_ior dX9_swear_106 ?_
          obtain ⟨h9, h⟩ := h
          refine aw_iast dX9_swear_107 (by decide) ce_8 h9 ?_
          refine aw_iload_n dX9_swear_108 rfl rfl ?_
          exact aw_iret dX9_swear_109 rfl rfl h
        · replace h := h.2 z
          refine aw_bipush (v := (-3)) dX9_swear_90 (by decide) ?_
          exact aw_iret dX9_swear_92 rfl rfl h
      · replace h := h.2 z
        refine aw_bipush (v := (-2)) dX9_swear_40 (by decide) ?_
        exact aw_iret dX9_swear_42 rfl rfl h
    · replace h := h.2 z
      refine aw_iconst (v := (-1)) dX9_swear_22 (by decide) ?_
      exact aw_iret dX9_swear_23 rfl rfl h
abbrev AX9_holds (d : Nat) (Q : Option Int32 → Mem → Prop) (pc : Nat) (L : List (Option Value)) (st : List Value) (M : Mem) : Prop := AW none RX9 cX9_holds 2 (some .int) d Q pc L st M
theorem eX9_holds {d : Nat} {Q : Option Int32 → Mem → Prop} (M : Mem) (x1 : Int32) (h : AX9_holds d Q 0 [lR 0, lI x1] [] M) : AM d iX9_holds [.ref 0, .int x1] M Q := AM.of2 (by decide) rfl rfl h
theorem bX9_holds_0 {d : Nat} {Q : Option Int32 → Mem → Prop} (M : Mem) (x1 : Int32) (h : (¬ (isPV (M 1 9) x1) = 0 → AMv d iX6_reckon [.ref 62, .ref 1, .ref 37] M (fun M1 => (vp_in x1 12) ∧ ((vp_in x1 12) ∧ (AMi d iX6_comesToTop [.ref 62, .int (M1 7 (ix x1)), .int (M1 8 (ix x1))] M1 (fun r2 M2 => (r2 = 0 → Q (some 0) M2) ∧ (¬ r2 = 0 → Q (some 1) M2)))))) ∧ ((isPV (M 1 9) x1) = 0 → Q (some (-1)) M)) : AX9_holds (d + 1) Q 0 [lR 0, lI x1] [] M := by
  refine aw_aload_n dX9_holds_0 rfl rfl ?_
  refine aw_getf dX9_holds_1 fl_X9_12 (by decide) ce_0 rfl (v := .ref 1) rfl ?_
  refine aw_iload_n dX9_holds_4 rfl rfl ?_
  refine aw_callV (mi := iX8_isOath) (av := [.int x1]) (st := []) dX9_holds_5 ml_X9_149 kX8_isOath (by decide) ce_1 clX8 rfl rfl rfl (Nat.le_of_ble_eq_true rfl) (AM.mono (p_X8_isOath _ isV_1) (fun r9 M9 e9 => ?_))
  obtain ⟨rfl, rfl⟩ := e9
  refine aw_if_ne (tgt := 13) dX9_holds_8 (by decide) (fun z => ?_) (fun z => ?_)
  · replace h := h.1 z
    refine aw_aload_n dX9_holds_13 rfl rfl ?_
    refine aw_getf dX9_holds_14 fl_X9_54 (by decide) ce_0 rfl (v := .ref 62) rfl ?_
    refine aw_aload_n dX9_holds_17 rfl rfl ?_
    refine aw_getf dX9_holds_18 fl_X9_12 (by decide) ce_0 rfl (v := .ref 1) rfl ?_
    refine aw_aload_n dX9_holds_21 rfl rfl ?_
    refine aw_getf dX9_holds_22 fl_X9_31 (by decide) ce_0 rfl (v := .ref 36) rfl ?_
    refine aw_iconst (v := 0) dX9_holds_25 (by decide) ?_
    refine aw_aald dX9_holds_26 (by decide) ce_36 (by unfold vp_in; decide) rfl ?_
    refine aw_callV (mi := iX6_reckon) (av := [.ref 1, .ref 37]) (st := []) dX9_holds_27 ml_X9_132 kX6_reckon (by decide) ce_62 clX6 rfl rfl rfl (Nat.le_of_ble_eq_true rfl) (AM.mono h (fun r9 M1 h => ?_))
    obtain ⟨rfl, h⟩ := h
    refine aw_aload_n dX9_holds_30 rfl rfl ?_
    refine aw_getf dX9_holds_31 fl_X9_54 (by decide) ce_0 rfl (v := .ref 62) rfl ?_
    refine aw_aload_n dX9_holds_34 rfl rfl ?_
    refine aw_getf dX9_holds_35 fl_X9_12 (by decide) ce_0 rfl (v := .ref 1) rfl ?_
    refine aw_getf dX9_holds_38 fl_X9_164 (by decide) ce_1 rfl (v := .ref 7) rfl ?_
    refine aw_iload_n dX9_holds_41 rfl rfl ?_
    obtain ⟨h9, h⟩ := h
    refine aw_iald dX9_holds_42 (by decide) ce_7 h9 ?_
    refine aw_aload_n dX9_holds_43 rfl rfl ?_
    refine aw_getf dX9_holds_44 fl_X9_12 (by decide) ce_0 rfl (v := .ref 1) rfl ?_
    refine aw_getf dX9_holds_47 fl_X9_152 (by decide) ce_1 rfl (v := .ref 8) rfl ?_
    refine aw_iload_n dX9_holds_50 rfl rfl ?_
    obtain ⟨h9, h⟩ := h
    refine aw_iald dX9_holds_51 (by decide) ce_8 h9 ?_
    refine aw_callV (mi := iX6_comesToTop) (av := [.int (M1 7 (ix x1)), .int (M1 8 (ix x1))]) (st := []) dX9_holds_52 ml_X9_167 kX6_comesToTop (by decide) ce_62 clX6 rfl rfl rfl (Nat.le_of_ble_eq_true rfl) (AM.mono h (fun r9 M2 h => ?_))
    obtain ⟨r2, rfl, h⟩ := h
    refine aw_if_eq (tgt := 62) dX9_holds_55 (by decide) (fun z => ?_) (fun z => ?_)
    · replace h := h.1 z
      refine aw_iconst (v := 0) dX9_holds_62 (by decide) ?_
      exact aw_iret dX9_holds_63 rfl rfl h
    · replace h := h.2 z
      refine aw_iconst (v := 1) dX9_holds_58 (by decide) ?_
      refine aw_goto (tgt := 63) dX9_holds_59 (by decide) ?_
      exact aw_iret dX9_holds_63 rfl rfl h
  · replace h := h.2 z
    refine aw_iconst (v := (-1)) dX9_holds_11 (by decide) ?_
    exact aw_iret dX9_holds_12 rfl rfl h
abbrev AX9_year (d : Nat) (Q : Option Int32 → Mem → Prop) (pc : Nat) (L : List (Option Value)) (st : List Value) (M : Mem) : Prop := AW none RX9 cX9_year 2 (some .int) d Q pc L st M
theorem eX9_year {d : Nat} {Q : Option Int32 → Mem → Prop} (M : Mem) (x1 : Int32) (h : AX9_year d Q 0 [lR 0, lI x1] [] M) : AM d iX9_year [.ref 0, .int x1] M Q := AM.of2 (by decide) rfl rfl h
theorem bX9_year_0 {d : Nat} {Q : Option Int32 → Mem → Prop} (M : Mem) (x1 : Int32) (h : ((inV x1 0 9) = 0 → Q (some (-1)) M) ∧ (¬ (inV x1 0 9) = 0 → AMi d iX8_passYear [.ref 1, .ref 37, .int x1] M (fun r1 M1 => Q (some r1) M1))) : AX9_year (d + 1) Q 0 [lR 0, lI x1] [] M := by
  refine aw_iload_n dX9_year_0 rfl rfl ?_
  refine aw_iconst (v := 0) dX9_year_1 (by decide) ?_
  refine aw_bipush (v := 9) dX9_year_2 (by decide) ?_
  refine aw_callS (mi := iX9_within) (av := [.int x1, .int 0, .int 9]) (st := []) dX9_year_4 ml_X9_85 kX9_within rfl rfl (Nat.le_of_ble_eq_true rfl) (AM.mono (p_X9_within _ _ _) (fun r9 M9 e9 => ?_))
  obtain ⟨rfl, rfl⟩ := e9
  refine aw_if_eq (tgt := 27) dX9_year_7 (by decide) (fun z => ?_) (fun z => ?_)
  · replace h := h.1 z
    refine aw_iconst (v := (-1)) dX9_year_27 (by decide) ?_
    exact aw_iret dX9_year_28 rfl rfl h
  · replace h := h.2 z
    refine aw_aload_n dX9_year_10 rfl rfl ?_
    refine aw_getf dX9_year_11 fl_X9_12 (by decide) ce_0 rfl (v := .ref 1) rfl ?_
    refine aw_aload_n dX9_year_14 rfl rfl ?_
    refine aw_getf dX9_year_15 fl_X9_31 (by decide) ce_0 rfl (v := .ref 36) rfl ?_
    refine aw_iconst (v := 0) dX9_year_18 (by decide) ?_
    refine aw_aald dX9_year_19 (by decide) ce_36 (by unfold vp_in; decide) rfl ?_
    refine aw_iload_n dX9_year_20 rfl rfl ?_
    refine aw_callV (mi := iX8_passYear) (av := [.ref 37, .int x1]) (st := []) dX9_year_21 ml_X9_170 kX8_passYear (by decide) ce_1 clX8 rfl rfl rfl (Nat.le_of_ble_eq_true rfl) (AM.mono h (fun r9 M1 h => ?_))
    obtain ⟨r1, rfl, h⟩ := h
    refine aw_goto (tgt := 28) dX9_year_24 (by decide) ?_
    exact aw_iret dX9_year_28 rfl rfl h
abbrev AX9_years (d : Nat) (Q : Option Int32 → Mem → Prop) (pc : Nat) (L : List (Option Value)) (st : List Value) (M : Mem) : Prop := AW none RX9 cX9_years 2 (some .int) d Q pc L st M
theorem eX9_years {d : Nat} {Q : Option Int32 → Mem → Prop} (M : Mem) (x1 : Int32) (h : AX9_years d Q 0 [lR 0, lI x1] [] M) : AM d iX9_years [.ref 0, .int x1] M Q := AM.of2 (by decide) rfl rfl h
theorem bX9_years_0 {d : Nat} {Q : Option Int32 → Mem → Prop} (M : Mem) (x1 : Int32) (h : ((inV x1 1 60) = 0 → Q (some (-1)) M) ∧ (¬ (inV x1 1 60) = 0 → AMi d iX9_runYears [.ref 0, .ref 1, .int x1] M (fun r1 M1 => Q (some r1) M1))) : AX9_years (d + 1) Q 0 [lR 0, lI x1] [] M := by
  refine aw_iload_n dX9_years_0 rfl rfl ?_
  refine aw_iconst (v := 1) dX9_years_1 (by decide) ?_
  refine aw_bipush (v := 60) dX9_years_2 (by decide) ?_
  refine aw_callS (mi := iX9_within) (av := [.int x1, .int 1, .int 60]) (st := []) dX9_years_4 ml_X9_85 kX9_within rfl rfl (Nat.le_of_ble_eq_true rfl) (AM.mono (p_X9_within _ _ _) (fun r9 M9 e9 => ?_))
  obtain ⟨rfl, rfl⟩ := e9
  refine aw_if_eq (tgt := 22) dX9_years_7 (by decide) (fun z => ?_) (fun z => ?_)
  · replace h := h.1 z
    refine aw_iconst (v := (-1)) dX9_years_22 (by decide) ?_
    exact aw_iret dX9_years_23 rfl rfl h
  · replace h := h.2 z
    refine aw_aload_n dX9_years_10 rfl rfl ?_
    refine aw_aload_n dX9_years_11 rfl rfl ?_
    refine aw_getf dX9_years_12 fl_X9_12 (by decide) ce_0 rfl (v := .ref 1) rfl ?_
    refine aw_iload_n dX9_years_15 rfl rfl ?_
    refine aw_callV (mi := iX9_runYears) (av := [.ref 1, .int x1]) (st := []) dX9_years_16 ml_X9_174 kX9_runYears (by decide) ce_0 clX9 rfl rfl rfl (Nat.le_of_ble_eq_true rfl) (AM.mono h (fun r9 M1 h => ?_))
    obtain ⟨r1, rfl, h⟩ := h
    refine aw_goto (tgt := 23) dX9_years_19 (by decide) ?_
    exact aw_iret dX9_years_23 rfl rfl h
abbrev AX9_tried (d : Nat) (Q : Option Int32 → Mem → Prop) (pc : Nat) (L : List (Option Value)) (st : List Value) (M : Mem) : Prop := AW none RX9 cX9_tried 4 (some .int) d Q pc L st M
theorem eX9_tried {d : Nat} {Q : Option Int32 → Mem → Prop} (M : Mem) (x1 x2 : Int32) (h : AX9_tried d Q 0 [lR 0, lI x1, lI x2, none] [] M) : AM d iX9_tried [.ref 0, .int x1, .int x2] M Q := AM.of2 (by decide) rfl rfl h
theorem bX9_tried_0 {d : Nat} {Q : Option Int32 → Mem → Prop} (M : Mem) (x1 x2 : Int32) (h : (x2 = (-1) → AX9_tried (d + 2) Q 22 [lR 0, lI x1, lI x2, none] [] M) ∧ (¬ x2 = (-1) → (x2 = 20 → AX9_tried (d + 2) Q 22 [lR 0, lI x1, lI x2, none] [] M) ∧ (¬ x2 = 20 → ((isPV (M 1 7) x2) = 0 → AX9_tried (d + 2) Q 27 [lR 0, lI x1, lI x2, none] [.int 0] M) ∧ (¬ (isPV (M 1 7) x2) = 0 → AX9_tried (d + 2) Q 22 [lR 0, lI x1, lI x2, none] [] M)))) : AX9_tried (d + 2) Q 0 [lR 0, lI x1, lI x2, none] [] M := by
  refine aw_iload_n dX9_tried_0 rfl rfl ?_
  refine aw_iconst (v := (-1)) dX9_tried_1 (by decide) ?_
  refine aw_icmp_eq (tgt := 22) dX9_tried_2 (by decide) (fun z => ?_) (fun z => ?_)
  · replace h := h.1 z
    exact h
  · replace h := h.2 z
    refine aw_iload_n dX9_tried_5 rfl rfl ?_
    refine aw_bipush (v := 20) dX9_tried_6 (by decide) ?_
    refine aw_icmp_eq (tgt := 22) dX9_tried_8 (by decide) (fun z => ?_) (fun z => ?_)
    · replace h := h.1 z
      exact h
    · replace h := h.2 z
      refine aw_aload_n dX9_tried_11 rfl rfl ?_
      refine aw_getf dX9_tried_12 fl_X9_12 (by decide) ce_0 rfl (v := .ref 1) rfl ?_
      refine aw_iload_n dX9_tried_15 rfl rfl ?_
      refine aw_callV (mi := iX8_isPerson) (av := [.int x2]) (st := []) dX9_tried_16 ml_X9_122 kX8_isPerson (by decide) ce_1 clX8 rfl rfl rfl (Nat.le_of_ble_eq_true rfl) (AM.mono (p_X8_isPerson _ isV_1) (fun r9 M9 e9 => ?_))
      obtain ⟨rfl, rfl⟩ := e9
      refine aw_if_eq (tgt := 26) dX9_tried_19 (by decide) (fun z => ?_) (fun z => ?_)
      · replace h := h.1 z
        refine aw_iconst (v := 0) dX9_tried_26 (by decide) ?_
        exact h
      · replace h := h.2 z
        exact h
theorem bX9_tried_22 {d : Nat} {Q : Option Int32 → Mem → Prop} (M : Mem) (x1 x2 : Int32) (h : AX9_tried (d + 2) Q 27 [lR 0, lI x1, lI x2, none] [.int 1] M) : AX9_tried (d + 2) Q 22 [lR 0, lI x1, lI x2, none] [] M := by
  refine aw_iconst (v := 1) dX9_tried_22 (by decide) ?_
  refine aw_goto (tgt := 27) dX9_tried_23 (by decide) ?_
  exact h
theorem bX9_tried_27 {d : Nat} {Q : Option Int32 → Mem → Prop} (M : Mem) (x1 x2 s0 : Int32) (h : ((inV x1 1 60) = 0 → Q (some (-1)) M) ∧ (¬ (inV x1 1 60) = 0 → (¬ s0 = 0 → AMv (d + 1) iX8_copyFrom [.ref 23, .ref 1] M (fun M1 => AMi (d + 1) iX9_runYears [.ref 0, .ref 23, .int x1] M1 (fun r2 M2 => (¬ x2 = (-1) → (¬ x2 = 20 → ((livV (M2 23 7) (M2 23 8) x2) = 0 → Q (some (-2)) M2) ∧ (¬ (livV (M2 23 7) (M2 23 8) x2) = 0 → AMi (d + 1) iX8_heightOf [.ref 23, .int x2] M2 (fun r3 M3 => Q (some r3) M3))) ∧ (x2 = 20 → Q (some (bcV (M2 23 8))) M2)) ∧ (x2 = (-1) → AMi (d + 1) iX9_heldBy [.ref 0, .ref 23, .ref 37] M2 (fun r4 M4 => Q (some (bcV r4)) M4))))) ∧ (s0 = 0 → Q (some (-1)) M))) : AX9_tried (d + 2) Q 27 [lR 0, lI x1, lI x2, none] [.int s0] M := by
  refine aw_istore_n (L2 := [lR 0, lI x1, lI x2, lI s0]) dX9_tried_27 rfl (by decide) rfl ?_
  refine aw_iload_n dX9_tried_28 rfl rfl ?_
  refine aw_iconst (v := 1) dX9_tried_29 (by decide) ?_
  refine aw_bipush (v := 60) dX9_tried_30 (by decide) ?_
  refine aw_callS (mi := iX9_within) (av := [.int x1, .int 1, .int 60]) (st := []) dX9_tried_32 ml_X9_85 kX9_within rfl rfl (Nat.le_of_ble_eq_true rfl) (AM.mono (p_X9_within _ _ _) (fun r9 M9 e9 => ?_))
  obtain ⟨rfl, rfl⟩ := e9
  refine aw_if_eq (tgt := 42) dX9_tried_35 (by decide) (fun z => ?_) (fun z => ?_)
  · replace h := h.1 z
    refine aw_iconst (v := (-1)) dX9_tried_42 (by decide) ?_
    exact aw_iret dX9_tried_43 rfl rfl h
  · replace h := h.2 z
    refine aw_iload_n dX9_tried_38 rfl rfl ?_
    refine aw_if_ne (tgt := 44) dX9_tried_39 (by decide) (fun z => ?_) (fun z => ?_)
    · replace h := h.1 z
      refine aw_aload_n dX9_tried_44 rfl rfl ?_
      refine aw_getf dX9_tried_45 fl_X9_19 (by decide) ce_0 rfl (v := .ref 23) rfl ?_
      refine aw_aload_n dX9_tried_48 rfl rfl ?_
      refine aw_getf dX9_tried_49 fl_X9_12 (by decide) ce_0 rfl (v := .ref 1) rfl ?_
      refine aw_callV (mi := iX8_copyFrom) (av := [.ref 1]) (st := []) dX9_tried_52 ml_X9_178 kX8_copyFrom (by decide) ce_23 clX8 rfl rfl rfl (Nat.le_of_ble_eq_true rfl) (AM.mono h (fun r9 M1 h => ?_))
      obtain ⟨rfl, h⟩ := h
      refine aw_aload_n dX9_tried_55 rfl rfl ?_
      refine aw_aload_n dX9_tried_56 rfl rfl ?_
      refine aw_getf dX9_tried_57 fl_X9_19 (by decide) ce_0 rfl (v := .ref 23) rfl ?_
      refine aw_iload_n dX9_tried_60 rfl rfl ?_
      refine aw_callV (mi := iX9_runYears) (av := [.ref 23, .int x1]) (st := []) dX9_tried_61 ml_X9_174 kX9_runYears (by decide) ce_0 clX9 rfl rfl rfl (Nat.le_of_ble_eq_true rfl) (AM.mono h (fun r9 M2 h => ?_))
      obtain ⟨r2, rfl, h⟩ := h
      refine aw_pop dX9_tried_64 rfl ?_
      refine aw_iload_n dX9_tried_65 rfl rfl ?_
      refine aw_iconst (v := (-1)) dX9_tried_66 (by decide) ?_
      refine aw_icmp_ne (tgt := 88) dX9_tried_67 (by decide) (fun z => ?_) (fun z => ?_)
      · replace h := h.1 z
        refine aw_iload_n dX9_tried_88 rfl rfl ?_
        refine aw_bipush (v := 20) dX9_tried_89 (by decide) ?_
        refine aw_icmp_ne (tgt := 105) dX9_tried_91 (by decide) (fun z => ?_) (fun z => ?_)
        · replace h := h.1 z
          refine aw_aload_n dX9_tried_105 rfl rfl ?_
          refine aw_getf dX9_tried_106 fl_X9_19 (by decide) ce_0 rfl (v := .ref 23) rfl ?_
          refine aw_iload_n dX9_tried_109 rfl rfl ?_
          refine aw_callV (mi := iX8_lives) (av := [.int x2]) (st := []) dX9_tried_110 ml_X9_97 kX8_lives (by decide) ce_23 clX8 rfl rfl rfl (Nat.le_of_ble_eq_true rfl) (AM.mono (p_X8_lives _ isV_23) (fun r9 M9 e9 => ?_))
          obtain ⟨rfl, rfl⟩ := e9
          refine aw_if_eq (tgt := 127) dX9_tried_113 (by decide) (fun z => ?_) (fun z => ?_)
          · replace h := h.1 z
            refine aw_bipush (v := (-2)) dX9_tried_127 (by decide) ?_
            exact aw_iret dX9_tried_129 rfl rfl h
          · replace h := h.2 z
            refine aw_aload_n dX9_tried_116 rfl rfl ?_
            refine aw_getf dX9_tried_117 fl_X9_19 (by decide) ce_0 rfl (v := .ref 23) rfl ?_
            refine aw_iload_n dX9_tried_120 rfl rfl ?_
            refine aw_callV (mi := iX8_heightOf) (av := [.int x2]) (st := []) dX9_tried_121 ml_X9_125 kX8_heightOf (by decide) ce_23 clX8 rfl rfl rfl (Nat.le_of_ble_eq_true rfl) (AM.mono h (fun r9 M3 h => ?_))
            obtain ⟨r3, rfl, h⟩ := h
            refine aw_goto (tgt := 129) dX9_tried_124 (by decide) ?_
            exact aw_iret dX9_tried_129 rfl rfl h
        · replace h := h.2 z
          refine aw_aload_n dX9_tried_94 rfl rfl ?_
          refine aw_getf dX9_tried_95 fl_X9_19 (by decide) ce_0 rfl (v := .ref 23) rfl ?_
          refine aw_getf dX9_tried_98 fl_X9_104 (by decide) ce_23 rfl (v := .int (M2 23 8)) rfl ?_
          refine aw_callS (mi := iJ6_bitCount_0f7a4) (av := [.int (M2 23 8)]) (st := []) dX9_tried_101 ml_X9_185 kJ6_bitCount_0f7a4 rfl rfl (Nat.le_of_ble_eq_true rfl) (AM.mono (p_J6_bitCount _) (fun r9 M9 e9 => ?_))
          obtain ⟨rfl, rfl⟩ := e9
          exact aw_iret dX9_tried_104 rfl rfl h
      · replace h := h.2 z
        refine aw_aload_n dX9_tried_70 rfl rfl ?_
        refine aw_aload_n dX9_tried_71 rfl rfl ?_
        refine aw_getf dX9_tried_72 fl_X9_19 (by decide) ce_0 rfl (v := .ref 23) rfl ?_
        refine aw_aload_n dX9_tried_75 rfl rfl ?_
        refine aw_getf dX9_tried_76 fl_X9_31 (by decide) ce_0 rfl (v := .ref 36) rfl ?_
        refine aw_iconst (v := 0) dX9_tried_79 (by decide) ?_
        refine aw_aald dX9_tried_80 (by decide) ce_36 (by unfold vp_in; decide) rfl ?_
        refine aw_callV (mi := iX9_heldBy) (av := [.ref 23, .ref 37]) (st := []) dX9_tried_81 ml_X9_181 kX9_heldBy (by decide) ce_0 clX9 rfl rfl rfl (Nat.le_of_ble_eq_true rfl) (AM.mono h (fun r9 M4 h => ?_))
        obtain ⟨r4, rfl, h⟩ := h
        refine aw_callS (mi := iJ6_bitCount_0f7a4) (av := [.int r4]) (st := []) dX9_tried_84 ml_X9_185 kJ6_bitCount_0f7a4 rfl rfl (Nat.le_of_ble_eq_true rfl) (AM.mono (p_J6_bitCount _) (fun r9 M9 e9 => ?_))
        obtain ⟨rfl, rfl⟩ := e9
        exact aw_iret dX9_tried_87 rfl rfl h
    · replace h := h.2 z
      refine aw_iconst (v := (-1)) dX9_tried_42 (by decide) ?_
      exact aw_iret dX9_tried_43 rfl rfl h
abbrev AX9_chain (d : Nat) (Q : Option Int32 → Mem → Prop) (pc : Nat) (L : List (Option Value)) (st : List Value) (M : Mem) : Prop := AW none RX9 cX9_chain 3 (some .int) d Q pc L st M
theorem eX9_chain {d : Nat} {Q : Option Int32 → Mem → Prop} (M : Mem) (x1 x2 : Int32) (h : AX9_chain d Q 0 [lR 0, lI x1, lI x2] [] M) : AM d iX9_chain [.ref 0, .int x1, .int x2] M Q := AM.of2 (by decide) rfl rfl h
theorem bX9_chain_0 {d : Nat} {Q : Option Int32 → Mem → Prop} (M : Mem) (x1 x2 : Int32) (h : ((isPV (M 1 9) x1) = 0 → Q (some (-3)) M) ∧ (¬ (isPV (M 1 9) x1) = 0 → (¬ (inV x2 (-1) 16) = 0 → AMv d iX6_reckon [.ref 62, .ref 1, .ref 37] M (fun M1 => AMv d iX6_reckonPrices [.ref 62] M1 (fun M2 => (vp_in x1 12) ∧ ((vp_in x1 12) ∧ (AMi d iX0_search [.ref 69, .int (M2 7 (ix x1)), .int (M2 8 (ix x1))] M2 (fun r3 M3 => (¬ r3 = 0 → (¬ x2 = (-1) → (¬ x2 = 16 → AMi d iX0_personAt [.ref 69, .int x2] M3 (fun r4 M4 => Q (some r4) M4)) ∧ (x2 = 16 → AMi d iX0_length [.ref 69] M3 (fun r5 M5 => Q (some r5) M5))) ∧ (x2 = (-1) → AMi d iX0_leastPrice [.ref 69] M3 (fun r6 M6 => Q (some r6) M6))) ∧ (r3 = 0 → Q (some (-2)) M3))))))) ∧ ((inV x2 (-1) 16) = 0 → Q (some (-3)) M))) : AX9_chain (d + 1) Q 0 [lR 0, lI x1, lI x2] [] M := by
  refine aw_aload_n dX9_chain_0 rfl rfl ?_
  refine aw_getf dX9_chain_1 fl_X9_12 (by decide) ce_0 rfl (v := .ref 1) rfl ?_
  refine aw_iload_n dX9_chain_4 rfl rfl ?_
  refine aw_callV (mi := iX8_isOath) (av := [.int x1]) (st := []) dX9_chain_5 ml_X9_149 kX8_isOath (by decide) ce_1 clX8 rfl rfl rfl (Nat.le_of_ble_eq_true rfl) (AM.mono (p_X8_isOath _ isV_1) (fun r9 M9 e9 => ?_))
  obtain ⟨rfl, rfl⟩ := e9
  refine aw_if_eq (tgt := 21) dX9_chain_8 (by decide) (fun z => ?_) (fun z => ?_)
  · replace h := h.1 z
    refine aw_bipush (v := (-3)) dX9_chain_21 (by decide) ?_
    exact aw_iret dX9_chain_23 rfl rfl h
  · replace h := h.2 z
    refine aw_iload_n dX9_chain_11 rfl rfl ?_
    refine aw_iconst (v := (-1)) dX9_chain_12 (by decide) ?_
    refine aw_bipush (v := 16) dX9_chain_13 (by decide) ?_
    refine aw_callS (mi := iX9_within) (av := [.int x2, .int (-1), .int 16]) (st := []) dX9_chain_15 ml_X9_85 kX9_within rfl rfl (Nat.le_of_ble_eq_true rfl) (AM.mono (p_X9_within _ _ _) (fun r9 M9 e9 => ?_))
    obtain ⟨rfl, rfl⟩ := e9
    refine aw_if_ne (tgt := 24) dX9_chain_18 (by decide) (fun z => ?_) (fun z => ?_)
    · replace h := h.1 z
      refine aw_aload_n dX9_chain_24 rfl rfl ?_
      refine aw_getf dX9_chain_25 fl_X9_54 (by decide) ce_0 rfl (v := .ref 62) rfl ?_
      refine aw_aload_n dX9_chain_28 rfl rfl ?_
      refine aw_getf dX9_chain_29 fl_X9_12 (by decide) ce_0 rfl (v := .ref 1) rfl ?_
      refine aw_aload_n dX9_chain_32 rfl rfl ?_
      refine aw_getf dX9_chain_33 fl_X9_31 (by decide) ce_0 rfl (v := .ref 36) rfl ?_
      refine aw_iconst (v := 0) dX9_chain_36 (by decide) ?_
      refine aw_aald dX9_chain_37 (by decide) ce_36 (by unfold vp_in; decide) rfl ?_
      refine aw_callV (mi := iX6_reckon) (av := [.ref 1, .ref 37]) (st := []) dX9_chain_38 ml_X9_132 kX6_reckon (by decide) ce_62 clX6 rfl rfl rfl (Nat.le_of_ble_eq_true rfl) (AM.mono h (fun r9 M1 h => ?_))
      obtain ⟨rfl, h⟩ := h
      refine aw_aload_n dX9_chain_41 rfl rfl ?_
      refine aw_getf dX9_chain_42 fl_X9_54 (by decide) ce_0 rfl (v := .ref 62) rfl ?_
      refine aw_callV (mi := iX6_reckonPrices) (av := []) (st := []) dX9_chain_45 ml_X9_158 kX6_reckonPrices (by decide) ce_62 clX6 rfl rfl rfl (Nat.le_of_ble_eq_true rfl) (AM.mono h (fun r9 M2 h => ?_))
      obtain ⟨rfl, h⟩ := h
      refine aw_aload_n dX9_chain_48 rfl rfl ?_
      refine aw_getf dX9_chain_49 fl_X9_63 (by decide) ce_0 rfl (v := .ref 69) rfl ?_
      refine aw_aload_n dX9_chain_52 rfl rfl ?_
      refine aw_getf dX9_chain_53 fl_X9_12 (by decide) ce_0 rfl (v := .ref 1) rfl ?_
      refine aw_getf dX9_chain_56 fl_X9_164 (by decide) ce_1 rfl (v := .ref 7) rfl ?_
      refine aw_iload_n dX9_chain_59 rfl rfl ?_
      obtain ⟨h9, h⟩ := h
      refine aw_iald dX9_chain_60 (by decide) ce_7 h9 ?_
      refine aw_aload_n dX9_chain_61 rfl rfl ?_
      refine aw_getf dX9_chain_62 fl_X9_12 (by decide) ce_0 rfl (v := .ref 1) rfl ?_
      refine aw_getf dX9_chain_65 fl_X9_152 (by decide) ce_1 rfl (v := .ref 8) rfl ?_
      refine aw_iload_n dX9_chain_68 rfl rfl ?_
      obtain ⟨h9, h⟩ := h
      refine aw_iald dX9_chain_69 (by decide) ce_8 h9 ?_
      refine aw_callV (mi := iX0_search) (av := [.int (M2 7 (ix x1)), .int (M2 8 (ix x1))]) (st := []) dX9_chain_70 ml_X9_190 kX0_search (by decide) ce_69 clX0 rfl rfl rfl (Nat.le_of_ble_eq_true rfl) (AM.mono h (fun r9 M3 h => ?_))
      obtain ⟨r3, rfl, h⟩ := h
      refine aw_if_ne (tgt := 79) dX9_chain_73 (by decide) (fun z => ?_) (fun z => ?_)
      · replace h := h.1 z
        refine aw_iload_n dX9_chain_79 rfl rfl ?_
        refine aw_iconst (v := (-1)) dX9_chain_80 (by decide) ?_
        refine aw_icmp_ne (tgt := 92) dX9_chain_81 (by decide) (fun z => ?_) (fun z => ?_)
        · replace h := h.1 z
          refine aw_iload_n dX9_chain_92 rfl rfl ?_
          refine aw_bipush (v := 16) dX9_chain_93 (by decide) ?_
          refine aw_icmp_ne (tgt := 108) dX9_chain_95 (by decide) (fun z => ?_) (fun z => ?_)
          · replace h := h.1 z
            refine aw_aload_n dX9_chain_108 rfl rfl ?_
            refine aw_getf dX9_chain_109 fl_X9_63 (by decide) ce_0 rfl (v := .ref 69) rfl ?_
            refine aw_iload_n dX9_chain_112 rfl rfl ?_
            refine aw_callV (mi := iX0_personAt) (av := [.int x2]) (st := []) dX9_chain_113 ml_X9_199 kX0_personAt (by decide) ce_69 clX0 rfl rfl rfl (Nat.le_of_ble_eq_true rfl) (AM.mono h (fun r9 M4 h => ?_))
            obtain ⟨r4, rfl, h⟩ := h
            exact aw_iret dX9_chain_116 rfl rfl h
          · replace h := h.2 z
            refine aw_aload_n dX9_chain_98 rfl rfl ?_
            refine aw_getf dX9_chain_99 fl_X9_63 (by decide) ce_0 rfl (v := .ref 69) rfl ?_
            refine aw_callV (mi := iX0_length) (av := []) (st := []) dX9_chain_102 ml_X9_196 kX0_length (by decide) ce_69 clX0 rfl rfl rfl (Nat.le_of_ble_eq_true rfl) (AM.mono h (fun r9 M5 h => ?_))
            obtain ⟨r5, rfl, h⟩ := h
            refine aw_goto (tgt := 116) dX9_chain_105 (by decide) ?_
            exact aw_iret dX9_chain_116 rfl rfl h
        · replace h := h.2 z
          refine aw_aload_n dX9_chain_84 rfl rfl ?_
          refine aw_getf dX9_chain_85 fl_X9_63 (by decide) ce_0 rfl (v := .ref 69) rfl ?_
          refine aw_callV (mi := iX0_leastPrice) (av := []) (st := []) dX9_chain_88 ml_X9_193 kX0_leastPrice (by decide) ce_69 clX0 rfl rfl rfl (Nat.le_of_ble_eq_true rfl) (AM.mono h (fun r9 M6 h => ?_))
          obtain ⟨r6, rfl, h⟩ := h
          exact aw_iret dX9_chain_91 rfl rfl h
      · replace h := h.2 z
        refine aw_bipush (v := (-2)) dX9_chain_76 (by decide) ?_
        exact aw_iret dX9_chain_78 rfl rfl h
    · replace h := h.2 z
      refine aw_bipush (v := (-3)) dX9_chain_21 (by decide) ?_
      exact aw_iret dX9_chain_23 rfl rfl h
abbrev AX9_safe (d : Nat) (Q : Option Int32 → Mem → Prop) (pc : Nat) (L : List (Option Value)) (st : List Value) (M : Mem) : Prop := AW none RX9 cX9_safe 4 (some .int) d Q pc L st M
theorem eX9_safe {d : Nat} {Q : Option Int32 → Mem → Prop} (M : Mem) (x1 x2 x3 : Int32) (h : AX9_safe d Q 0 [lR 0, lI x1, lI x2, lI x3] [] M) : AM d iX9_safe [.ref 0, .int x1, .int x2, .int x3] M Q := AM.of2 (by decide) rfl rfl h
theorem bX9_safe_0 {d : Nat} {Q : Option Int32 → Mem → Prop} (M : Mem) (x1 x2 x3 : Int32) (h : ((isPV (M 1 9) x1) = 0 → Q (some (-1)) M) ∧ (¬ (isPV (M 1 9) x1) = 0 → ((inV x2 1 2) = 0 → Q (some (-1)) M) ∧ (¬ (inV x2 1 2) = 0 → (¬ (inV x3 0 1) = 0 → AMv d iX6_reckon [.ref 62, .ref 1, .ref 37] M (fun M1 => AMv d iX6_reckonPrices [.ref 62] M1 (fun M2 => (vp_in x1 12) ∧ ((vp_in x1 12) ∧ (AMi d iX5_search [.ref 73, .int (M2 7 (ix x1)), .int (M2 8 (ix x1)), .int x2] M2 (fun r3 M3 => (¬ r3 = 0 → (¬ x3 = 0 → Q (some (M3 73 4)) M3) ∧ (x3 = 0 → Q (some (M3 73 3)) M3)) ∧ (r3 = 0 → Q (some (-2)) M3))))))) ∧ ((inV x3 0 1) = 0 → Q (some (-1)) M)))) : AX9_safe (d + 1) Q 0 [lR 0, lI x1, lI x2, lI x3] [] M := by
  refine aw_aload_n dX9_safe_0 rfl rfl ?_
  refine aw_getf dX9_safe_1 fl_X9_12 (by decide) ce_0 rfl (v := .ref 1) rfl ?_
  refine aw_iload_n dX9_safe_4 rfl rfl ?_
  refine aw_callV (mi := iX8_isOath) (av := [.int x1]) (st := []) dX9_safe_5 ml_X9_149 kX8_isOath (by decide) ce_1 clX8 rfl rfl rfl (Nat.le_of_ble_eq_true rfl) (AM.mono (p_X8_isOath _ isV_1) (fun r9 M9 e9 => ?_))
  obtain ⟨rfl, rfl⟩ := e9
  refine aw_if_eq (tgt := 29) dX9_safe_8 (by decide) (fun z => ?_) (fun z => ?_)
  · replace h := h.1 z
    refine aw_iconst (v := (-1)) dX9_safe_29 (by decide) ?_
    exact aw_iret dX9_safe_30 rfl rfl h
  · replace h := h.2 z
    refine aw_iload_n dX9_safe_11 rfl rfl ?_
    refine aw_iconst (v := 1) dX9_safe_12 (by decide) ?_
    refine aw_iconst (v := 2) dX9_safe_13 (by decide) ?_
    refine aw_callS (mi := iX9_within) (av := [.int x2, .int 1, .int 2]) (st := []) dX9_safe_14 ml_X9_85 kX9_within rfl rfl (Nat.le_of_ble_eq_true rfl) (AM.mono (p_X9_within _ _ _) (fun r9 M9 e9 => ?_))
    obtain ⟨rfl, rfl⟩ := e9
    refine aw_if_eq (tgt := 29) dX9_safe_17 (by decide) (fun z => ?_) (fun z => ?_)
    · replace h := h.1 z
      refine aw_iconst (v := (-1)) dX9_safe_29 (by decide) ?_
      exact aw_iret dX9_safe_30 rfl rfl h
    · replace h := h.2 z
      refine aw_iload_n dX9_safe_20 rfl rfl ?_
      refine aw_iconst (v := 0) dX9_safe_21 (by decide) ?_
      refine aw_iconst (v := 1) dX9_safe_22 (by decide) ?_
      refine aw_callS (mi := iX9_within) (av := [.int x3, .int 0, .int 1]) (st := []) dX9_safe_23 ml_X9_85 kX9_within rfl rfl (Nat.le_of_ble_eq_true rfl) (AM.mono (p_X9_within _ _ _) (fun r9 M9 e9 => ?_))
      obtain ⟨rfl, rfl⟩ := e9
      refine aw_if_ne (tgt := 31) dX9_safe_26 (by decide) (fun z => ?_) (fun z => ?_)
      · replace h := h.1 z
        refine aw_aload_n dX9_safe_31 rfl rfl ?_
        refine aw_getf dX9_safe_32 fl_X9_54 (by decide) ce_0 rfl (v := .ref 62) rfl ?_
        refine aw_aload_n dX9_safe_35 rfl rfl ?_
        refine aw_getf dX9_safe_36 fl_X9_12 (by decide) ce_0 rfl (v := .ref 1) rfl ?_
        refine aw_aload_n dX9_safe_39 rfl rfl ?_
        refine aw_getf dX9_safe_40 fl_X9_31 (by decide) ce_0 rfl (v := .ref 36) rfl ?_
        refine aw_iconst (v := 0) dX9_safe_43 (by decide) ?_
        refine aw_aald dX9_safe_44 (by decide) ce_36 (by unfold vp_in; decide) rfl ?_
        refine aw_callV (mi := iX6_reckon) (av := [.ref 1, .ref 37]) (st := []) dX9_safe_45 ml_X9_132 kX6_reckon (by decide) ce_62 clX6 rfl rfl rfl (Nat.le_of_ble_eq_true rfl) (AM.mono h (fun r9 M1 h => ?_))
        obtain ⟨rfl, h⟩ := h
        refine aw_aload_n dX9_safe_48 rfl rfl ?_
        refine aw_getf dX9_safe_49 fl_X9_54 (by decide) ce_0 rfl (v := .ref 62) rfl ?_
        refine aw_callV (mi := iX6_reckonPrices) (av := []) (st := []) dX9_safe_52 ml_X9_158 kX6_reckonPrices (by decide) ce_62 clX6 rfl rfl rfl (Nat.le_of_ble_eq_true rfl) (AM.mono h (fun r9 M2 h => ?_))
        obtain ⟨rfl, h⟩ := h
        refine aw_aload_n dX9_safe_55 rfl rfl ?_
        refine aw_getf dX9_safe_56 fl_X9_70 (by decide) ce_0 rfl (v := .ref 73) rfl ?_
        refine aw_aload_n dX9_safe_59 rfl rfl ?_
        refine aw_getf dX9_safe_60 fl_X9_12 (by decide) ce_0 rfl (v := .ref 1) rfl ?_
        refine aw_getf dX9_safe_63 fl_X9_164 (by decide) ce_1 rfl (v := .ref 7) rfl ?_
        refine aw_iload_n dX9_safe_66 rfl rfl ?_
        obtain ⟨h9, h⟩ := h
        refine aw_iald dX9_safe_67 (by decide) ce_7 h9 ?_
        refine aw_aload_n dX9_safe_68 rfl rfl ?_
        refine aw_getf dX9_safe_69 fl_X9_12 (by decide) ce_0 rfl (v := .ref 1) rfl ?_
        refine aw_getf dX9_safe_72 fl_X9_152 (by decide) ce_1 rfl (v := .ref 8) rfl ?_
        refine aw_iload_n dX9_safe_75 rfl rfl ?_
        obtain ⟨h9, h⟩ := h
        refine aw_iald dX9_safe_76 (by decide) ce_8 h9 ?_
        refine aw_iload_n dX9_safe_77 rfl rfl ?_
        refine aw_callV (mi := iX5_search) (av := [.int (M2 7 (ix x1)), .int (M2 8 (ix x1)), .int x2]) (st := []) dX9_safe_78 ml_X9_202 kX5_search (by decide) ce_73 clX5 rfl rfl rfl (Nat.le_of_ble_eq_true rfl) (AM.mono h (fun r9 M3 h => ?_))
        obtain ⟨r3, rfl, h⟩ := h
        refine aw_if_ne (tgt := 87) dX9_safe_81 (by decide) (fun z => ?_) (fun z => ?_)
        · replace h := h.1 z
          refine aw_iload_n dX9_safe_87 rfl rfl ?_
          refine aw_if_ne (tgt := 101) dX9_safe_88 (by decide) (fun z => ?_) (fun z => ?_)
          · replace h := h.1 z
            refine aw_aload_n dX9_safe_101 rfl rfl ?_
            refine aw_getf dX9_safe_102 fl_X9_70 (by decide) ce_0 rfl (v := .ref 73) rfl ?_
            refine aw_getf dX9_safe_105 fl_X9_206 (by decide) ce_73 rfl (v := .int (M3 73 4)) rfl ?_
            exact aw_iret dX9_safe_108 rfl rfl h
          · replace h := h.2 z
            refine aw_aload_n dX9_safe_91 rfl rfl ?_
            refine aw_getf dX9_safe_92 fl_X9_70 (by decide) ce_0 rfl (v := .ref 73) rfl ?_
            refine aw_getf dX9_safe_95 fl_X9_204 (by decide) ce_73 rfl (v := .int (M3 73 3)) rfl ?_
            refine aw_goto (tgt := 108) dX9_safe_98 (by decide) ?_
            exact aw_iret dX9_safe_108 rfl rfl h
        · replace h := h.2 z
          refine aw_bipush (v := (-2)) dX9_safe_84 (by decide) ?_
          exact aw_iret dX9_safe_86 rfl rfl h
      · replace h := h.2 z
        refine aw_iconst (v := (-1)) dX9_safe_29 (by decide) ?_
        exact aw_iret dX9_safe_30 rfl rfl h
abbrev AX9_cut (d : Nat) (Q : Option Int32 → Mem → Prop) (pc : Nat) (L : List (Option Value)) (st : List Value) (M : Mem) : Prop := AW none RX9 cX9_cut 2 (some .int) d Q pc L st M
theorem eX9_cut {d : Nat} {Q : Option Int32 → Mem → Prop} (M : Mem) (x1 : Int32) (h : AX9_cut d Q 0 [lR 0, lI x1] [] M) : AM d iX9_cut [.ref 0, .int x1] M Q := AM.of2 (by decide) rfl rfl h
theorem bX9_cut_0 {d : Nat} {Q : Option Int32 → Mem → Prop} (M : Mem) (x1 : Int32) (h : ((isPV (M 1 9) x1) = 0 → Q (some (-1)) M) ∧ (¬ (isPV (M 1 9) x1) = 0 → (vp_in x1 12) ∧ ((¬ (livV (M 1 7) (M 1 8) (M 7 (ix x1))) = 0 → AMv (d + 1) iX6_reckon [.ref 62, .ref 1, .ref 37] M (fun M1 => (vp_in x1 12) ∧ (AMi (d + 1) iX6_comesToTop [.ref 62, .int (M1 7 (ix x1)), .int 65535] M1 (fun r2 M2 => (r2 = 0 → (vp_in x1 12) ∧ (AMi (d + 1) iX6_reachFrom [.ref 62, .int (M2 7 (ix x1)), .int 65535] M2 (fun r3 M3 => Q (some r3) M3))) ∧ (¬ r2 = 0 → Q (some (-2)) M2))))) ∧ ((livV (M 1 7) (M 1 8) (M 7 (ix x1))) = 0 → Q (some (-1)) M)))) : AX9_cut (d + 2) Q 0 [lR 0, lI x1] [] M := by
  refine aw_aload_n dX9_cut_0 rfl rfl ?_
  refine aw_getf dX9_cut_1 fl_X9_12 (by decide) ce_0 rfl (v := .ref 1) rfl ?_
  refine aw_iload_n dX9_cut_4 rfl rfl ?_
  refine aw_callV (mi := iX8_isOath) (av := [.int x1]) (st := []) dX9_cut_5 ml_X9_149 kX8_isOath (by decide) ce_1 clX8 rfl rfl rfl (Nat.le_of_ble_eq_true rfl) (AM.mono (p_X8_isOath _ isV_1) (fun r9 M9 e9 => ?_))
  obtain ⟨rfl, rfl⟩ := e9
  refine aw_if_eq (tgt := 30) dX9_cut_8 (by decide) (fun z => ?_) (fun z => ?_)
  · replace h := h.1 z
    refine aw_iconst (v := (-1)) dX9_cut_30 (by decide) ?_
    exact aw_iret dX9_cut_31 rfl rfl h
  · replace h := h.2 z
    refine aw_aload_n dX9_cut_11 rfl rfl ?_
    refine aw_getf dX9_cut_12 fl_X9_12 (by decide) ce_0 rfl (v := .ref 1) rfl ?_
    refine aw_aload_n dX9_cut_15 rfl rfl ?_
    refine aw_getf dX9_cut_16 fl_X9_12 (by decide) ce_0 rfl (v := .ref 1) rfl ?_
    refine aw_getf dX9_cut_19 fl_X9_164 (by decide) ce_1 rfl (v := .ref 7) rfl ?_
    refine aw_iload_n dX9_cut_22 rfl rfl ?_
    obtain ⟨h9, h⟩ := h
    refine aw_iald dX9_cut_23 (by decide) ce_7 h9 ?_
    refine aw_callV (mi := iX8_lives) (av := [.int (M 7 (ix x1))]) (st := []) dX9_cut_24 ml_X9_97 kX8_lives (by decide) ce_1 clX8 rfl rfl rfl (Nat.le_of_ble_eq_true rfl) (AM.mono (p_X8_lives _ isV_1) (fun r9 M9 e9 => ?_))
    obtain ⟨rfl, rfl⟩ := e9
    refine aw_if_ne (tgt := 32) dX9_cut_27 (by decide) (fun z => ?_) (fun z => ?_)
    · replace h := h.1 z
      refine aw_aload_n dX9_cut_32 rfl rfl ?_
      refine aw_getf dX9_cut_33 fl_X9_54 (by decide) ce_0 rfl (v := .ref 62) rfl ?_
      refine aw_aload_n dX9_cut_36 rfl rfl ?_
      refine aw_getf dX9_cut_37 fl_X9_12 (by decide) ce_0 rfl (v := .ref 1) rfl ?_
      refine aw_aload_n dX9_cut_40 rfl rfl ?_
      refine aw_getf dX9_cut_41 fl_X9_31 (by decide) ce_0 rfl (v := .ref 36) rfl ?_
      refine aw_iconst (v := 0) dX9_cut_44 (by decide) ?_
      refine aw_aald dX9_cut_45 (by decide) ce_36 (by unfold vp_in; decide) rfl ?_
      refine aw_callV (mi := iX6_reckon) (av := [.ref 1, .ref 37]) (st := []) dX9_cut_46 ml_X9_132 kX6_reckon (by decide) ce_62 clX6 rfl rfl rfl (Nat.le_of_ble_eq_true rfl) (AM.mono h (fun r9 M1 h => ?_))
      obtain ⟨rfl, h⟩ := h
      refine aw_aload_n dX9_cut_49 rfl rfl ?_
      refine aw_getf dX9_cut_50 fl_X9_54 (by decide) ce_0 rfl (v := .ref 62) rfl ?_
      refine aw_aload_n dX9_cut_53 rfl rfl ?_
      refine aw_getf dX9_cut_54 fl_X9_12 (by decide) ce_0 rfl (v := .ref 1) rfl ?_
      refine aw_getf dX9_cut_57 fl_X9_164 (by decide) ce_1 rfl (v := .ref 7) rfl ?_
      refine aw_iload_n dX9_cut_60 rfl rfl ?_
      obtain ⟨h9, h⟩ := h
      refine aw_iald dX9_cut_61 (by decide) ce_7 h9 ?_
      refine aw_ldc dX9_cut_62 kc_X9_209 ?_
      refine aw_callV (mi := iX6_comesToTop) (av := [.int (M1 7 (ix x1)), .int 65535]) (st := []) dX9_cut_64 ml_X9_167 kX6_comesToTop (by decide) ce_62 clX6 rfl rfl rfl (Nat.le_of_ble_eq_true rfl) (AM.mono h (fun r9 M2 h => ?_))
      obtain ⟨r2, rfl, h⟩ := h
      refine aw_if_eq (tgt := 73) dX9_cut_67 (by decide) (fun z => ?_) (fun z => ?_)
      · replace h := h.1 z
        refine aw_aload_n dX9_cut_73 rfl rfl ?_
        refine aw_getf dX9_cut_74 fl_X9_54 (by decide) ce_0 rfl (v := .ref 62) rfl ?_
        refine aw_aload_n dX9_cut_77 rfl rfl ?_
        refine aw_getf dX9_cut_78 fl_X9_12 (by decide) ce_0 rfl (v := .ref 1) rfl ?_
        refine aw_getf dX9_cut_81 fl_X9_164 (by decide) ce_1 rfl (v := .ref 7) rfl ?_
        refine aw_iload_n dX9_cut_84 rfl rfl ?_
        obtain ⟨h9, h⟩ := h
        refine aw_iald dX9_cut_85 (by decide) ce_7 h9 ?_
        refine aw_ldc dX9_cut_86 kc_X9_209 ?_
        refine aw_callV (mi := iX6_reachFrom) (av := [.int (M2 7 (ix x1)), .int 65535]) (st := []) dX9_cut_88 ml_X9_210 kX6_reachFrom (by decide) ce_62 clX6 rfl rfl rfl (Nat.le_of_ble_eq_true rfl) (AM.mono h (fun r9 M3 h => ?_))
        obtain ⟨r3, rfl, h⟩ := h
        exact aw_iret dX9_cut_91 rfl rfl h
      · replace h := h.2 z
        refine aw_bipush (v := (-2)) dX9_cut_70 (by decide) ?_
        exact aw_iret dX9_cut_72 rfl rfl h
    · replace h := h.2 z
      refine aw_iconst (v := (-1)) dX9_cut_30 (by decide) ?_
      exact aw_iret dX9_cut_31 rfl rfl h
abbrev AX9_soonest (d : Nat) (Q : Option Int32 → Mem → Prop) (pc : Nat) (L : List (Option Value)) (st : List Value) (M : Mem) : Prop := AW none RX9 cX9_soonest 3 (some .int) d Q pc L st M
theorem eX9_soonest {d : Nat} {Q : Option Int32 → Mem → Prop} (M : Mem) (x1 : Int32) (h : AX9_soonest d Q 0 [lR 0, lI x1, none] [] M) : AM d iX9_soonest [.ref 0, .int x1] M Q := AM.of2 (by decide) rfl rfl h
theorem bX9_soonest_0 {d : Nat} {Q : Option Int32 → Mem → Prop} (M : Mem) (x1 : Int32) (h : (¬ (isPV (M 1 9) x1) = 0 → AMv d iX8_copyFrom [.ref 23, .ref 1] M (fun M1 => AX9_soonest (d + 1) Q 26 [lR 0, lI x1, lI 0] [] M1)) ∧ ((isPV (M 1 9) x1) = 0 → Q (some (-1)) M)) : AX9_soonest (d + 1) Q 0 [lR 0, lI x1, none] [] M := by
  refine aw_aload_n dX9_soonest_0 rfl rfl ?_
  refine aw_getf dX9_soonest_1 fl_X9_12 (by decide) ce_0 rfl (v := .ref 1) rfl ?_
  refine aw_iload_n dX9_soonest_4 rfl rfl ?_
  refine aw_callV (mi := iX8_isOath) (av := [.int x1]) (st := []) dX9_soonest_5 ml_X9_149 kX8_isOath (by decide) ce_1 clX8 rfl rfl rfl (Nat.le_of_ble_eq_true rfl) (AM.mono (p_X8_isOath _ isV_1) (fun r9 M9 e9 => ?_))
  obtain ⟨rfl, rfl⟩ := e9
  refine aw_if_ne (tgt := 13) dX9_soonest_8 (by decide) (fun z => ?_) (fun z => ?_)
  · replace h := h.1 z
    refine aw_aload_n dX9_soonest_13 rfl rfl ?_
    refine aw_getf dX9_soonest_14 fl_X9_19 (by decide) ce_0 rfl (v := .ref 23) rfl ?_
    refine aw_aload_n dX9_soonest_17 rfl rfl ?_
    refine aw_getf dX9_soonest_18 fl_X9_12 (by decide) ce_0 rfl (v := .ref 1) rfl ?_
    refine aw_callV (mi := iX8_copyFrom) (av := [.ref 1]) (st := []) dX9_soonest_21 ml_X9_178 kX8_copyFrom (by decide) ce_23 clX8 rfl rfl rfl (Nat.le_of_ble_eq_true rfl) (AM.mono h (fun r9 M1 h => ?_))
    obtain ⟨rfl, h⟩ := h
    refine aw_iconst (v := 0) dX9_soonest_24 (by decide) ?_
    refine aw_istore_n (L2 := [lR 0, lI x1, lI 0]) dX9_soonest_25 rfl (by decide) rfl ?_
    exact h
  · replace h := h.2 z
    refine aw_iconst (v := (-1)) dX9_soonest_11 (by decide) ?_
    exact aw_iret dX9_soonest_12 rfl rfl h
theorem bX9_soonest_26 {d : Nat} {Q : Option Int32 → Mem → Prop} (M : Mem) (x1 x2 : Int32) (h : (60 < x2 → Q (some (-2)) M) ∧ (¬ 60 < x2 → AMv d iX6_reckon [.ref 62, .ref 23, .ref 37] M (fun M1 => (vp_in x1 12) ∧ (AMi d iX6_comesToTop [.ref 62, .int (M1 29 (ix x1)), .int 65535] M1 (fun r2 M2 => (r2 = 0 → AMi d iX9_runYears [.ref 0, .ref 23, .int 1] M2 (fun r3 M3 => AX9_soonest (d + 1) Q 26 [lR 0, lI x1, lI (x2 + 1)] [] M3)) ∧ (¬ r2 = 0 → Q (some x2) M2)))))) : AX9_soonest (d + 1) Q 26 [lR 0, lI x1, lI x2] [] M := by
  refine aw_iload_n dX9_soonest_26 rfl rfl ?_
  refine aw_bipush (v := 60) dX9_soonest_27 (by decide) ?_
  refine aw_icmp_gt (tgt := 88) dX9_soonest_29 (by decide) (fun z => ?_) (fun z => ?_)
  · replace h := h.1 z
    refine aw_bipush (v := (-2)) dX9_soonest_88 (by decide) ?_
    exact aw_iret dX9_soonest_90 rfl rfl h
  · replace h := h.2 z
    refine aw_aload_n dX9_soonest_32 rfl rfl ?_
    refine aw_getf dX9_soonest_33 fl_X9_54 (by decide) ce_0 rfl (v := .ref 62) rfl ?_
    refine aw_aload_n dX9_soonest_36 rfl rfl ?_
    refine aw_getf dX9_soonest_37 fl_X9_19 (by decide) ce_0 rfl (v := .ref 23) rfl ?_
    refine aw_aload_n dX9_soonest_40 rfl rfl ?_
    refine aw_getf dX9_soonest_41 fl_X9_31 (by decide) ce_0 rfl (v := .ref 36) rfl ?_
    refine aw_iconst (v := 0) dX9_soonest_44 (by decide) ?_
    refine aw_aald dX9_soonest_45 (by decide) ce_36 (by unfold vp_in; decide) rfl ?_
    refine aw_callV (mi := iX6_reckon) (av := [.ref 23, .ref 37]) (st := []) dX9_soonest_46 ml_X9_132 kX6_reckon (by decide) ce_62 clX6 rfl rfl rfl (Nat.le_of_ble_eq_true rfl) (AM.mono h (fun r9 M1 h => ?_))
    obtain ⟨rfl, h⟩ := h
    refine aw_aload_n dX9_soonest_49 rfl rfl ?_
    refine aw_getf dX9_soonest_50 fl_X9_54 (by decide) ce_0 rfl (v := .ref 62) rfl ?_
    refine aw_aload_n dX9_soonest_53 rfl rfl ?_
    refine aw_getf dX9_soonest_54 fl_X9_19 (by decide) ce_0 rfl (v := .ref 23) rfl ?_
    refine aw_getf dX9_soonest_57 fl_X9_164 (by decide) ce_23 rfl (v := .ref 29) rfl ?_
    refine aw_iload_n dX9_soonest_60 rfl rfl ?_
    obtain ⟨h9, h⟩ := h
    refine aw_iald dX9_soonest_61 (by decide) ce_29 h9 ?_
    refine aw_ldc dX9_soonest_62 kc_X9_209 ?_
    refine aw_callV (mi := iX6_comesToTop) (av := [.int (M1 29 (ix x1)), .int 65535]) (st := []) dX9_soonest_64 ml_X9_167 kX6_comesToTop (by decide) ce_62 clX6 rfl rfl rfl (Nat.le_of_ble_eq_true rfl) (AM.mono h (fun r9 M2 h => ?_))
    obtain ⟨r2, rfl, h⟩ := h
    refine aw_if_eq (tgt := 72) dX9_soonest_67 (by decide) (fun z => ?_) (fun z => ?_)
    · replace h := h.1 z
      refine aw_aload_n dX9_soonest_72 rfl rfl ?_
      refine aw_aload_n dX9_soonest_73 rfl rfl ?_
      refine aw_getf dX9_soonest_74 fl_X9_19 (by decide) ce_0 rfl (v := .ref 23) rfl ?_
      refine aw_iconst (v := 1) dX9_soonest_77 (by decide) ?_
      refine aw_callV (mi := iX9_runYears) (av := [.ref 23, .int 1]) (st := []) dX9_soonest_78 ml_X9_174 kX9_runYears (by decide) ce_0 clX9 rfl rfl rfl (Nat.le_of_ble_eq_true rfl) (AM.mono h (fun r9 M3 h => ?_))
      obtain ⟨r3, rfl, h⟩ := h
      refine aw_pop dX9_soonest_81 rfl ?_
      refine aw_iinc (y := 1) (L2 := [lR 0, lI x1, lI (x2 + 1)]) dX9_soonest_82 rfl (by decide) (by decide) rfl ?_
      refine aw_goto (tgt := 26) dX9_soonest_85 (by decide) ?_
      exact h
    · replace h := h.2 z
      refine aw_iload_n dX9_soonest_70 rfl rfl ?_
      exact aw_iret dX9_soonest_71 rfl rfl h
abbrev AX9_against (d : Nat) (Q : Option Int32 → Mem → Prop) (pc : Nat) (L : List (Option Value)) (st : List Value) (M : Mem) : Prop := AW none RX9 cX9_against 7 (some .int) d Q pc L st M
theorem eX9_against {d : Nat} {Q : Option Int32 → Mem → Prop} (M : Mem) (x1 x2 x3 x4 : Int32) (h : AX9_against d Q 0 [lR 0, lI x1, lI x2, lI x3, lI x4, none, none] [] M) : AM d iX9_against [.ref 0, .int x1, .int x2, .int x3, .int x4] M Q := AM.of2 (by decide) rfl rfl h
theorem bX9_against_0 {d : Nat} {Q : Option Int32 → Mem → Prop} (M : Mem) (x1 x2 x3 x4 : Int32) (h : ((isPV (M 1 9) x1) = 0 → AX9_against (d + 1) Q 31 [lR 0, lI x1, lI x2, lI x3, lI x4, none, none] [] M) ∧ (¬ (isPV (M 1 9) x1) = 0 → ((isPV (M 1 9) x2) = 0 → AX9_against (d + 1) Q 31 [lR 0, lI x1, lI x2, lI x3, lI x4, none, none] [] M) ∧ (¬ (isPV (M 1 9) x2) = 0 → (x1 = x2 → AX9_against (d + 1) Q 31 [lR 0, lI x1, lI x2, lI x3, lI x4, none, none] [] M) ∧ (¬ x1 = x2 → AX9_against (d + 1) Q 32 [lR 0, lI x1, lI x2, lI x3, lI x4, none, none] [.int 1] M)))) : AX9_against (d + 1) Q 0 [lR 0, lI x1, lI x2, lI x3, lI x4, none, none] [] M := by
  refine aw_aload_n dX9_against_0 rfl rfl ?_
  refine aw_getf dX9_against_1 fl_X9_12 (by decide) ce_0 rfl (v := .ref 1) rfl ?_
  refine aw_iload_n dX9_against_4 rfl rfl ?_
  refine aw_callV (mi := iX8_isOath) (av := [.int x1]) (st := []) dX9_against_5 ml_X9_149 kX8_isOath (by decide) ce_1 clX8 rfl rfl rfl (Nat.le_of_ble_eq_true rfl) (AM.mono (p_X8_isOath _ isV_1) (fun r9 M9 e9 => ?_))
  obtain ⟨rfl, rfl⟩ := e9
  refine aw_if_eq (tgt := 31) dX9_against_8 (by decide) (fun z => ?_) (fun z => ?_)
  · replace h := h.1 z
    exact h
  · replace h := h.2 z
    refine aw_aload_n dX9_against_11 rfl rfl ?_
    refine aw_getf dX9_against_12 fl_X9_12 (by decide) ce_0 rfl (v := .ref 1) rfl ?_
    refine aw_iload_n dX9_against_15 rfl rfl ?_
    refine aw_callV (mi := iX8_isOath) (av := [.int x2]) (st := []) dX9_against_16 ml_X9_149 kX8_isOath (by decide) ce_1 clX8 rfl rfl rfl (Nat.le_of_ble_eq_true rfl) (AM.mono (p_X8_isOath _ isV_1) (fun r9 M9 e9 => ?_))
    obtain ⟨rfl, rfl⟩ := e9
    refine aw_if_eq (tgt := 31) dX9_against_19 (by decide) (fun z => ?_) (fun z => ?_)
    · replace h := h.1 z
      exact h
    · replace h := h.2 z
      refine aw_iload_n dX9_against_22 rfl rfl ?_
      refine aw_iload_n dX9_against_23 rfl rfl ?_
      refine aw_icmp_eq (tgt := 31) dX9_against_24 (by decide) (fun z => ?_) (fun z => ?_)
      · replace h := h.1 z
        exact h
      · replace h := h.2 z
        refine aw_iconst (v := 1) dX9_against_27 (by decide) ?_
        refine aw_goto (tgt := 32) dX9_against_28 (by decide) ?_
        exact h
theorem bX9_against_31 {d : Nat} {Q : Option Int32 → Mem → Prop} (M : Mem) (x1 x2 x3 x4 : Int32) (h : AX9_against (d + 1) Q 32 [lR 0, lI x1, lI x2, lI x3, lI x4, none, none] [.int 0] M) : AX9_against (d + 1) Q 31 [lR 0, lI x1, lI x2, lI x3, lI x4, none, none] [] M := by
  refine aw_iconst (v := 0) dX9_against_31 (by decide) ?_
  exact h
theorem bX9_against_32 {d : Nat} {Q : Option Int32 → Mem → Prop} (M : Mem) (x1 x2 x3 x4 s0 : Int32) (h : (s0 = 0 → Q (some (-1000)) M) ∧ (¬ s0 = 0 → ((inV x3 1 4) = 0 → Q (some (-1000)) M) ∧ (¬ (inV x3 1 4) = 0 → (¬ (inV x4 0 1) = 0 → AMv d iX6_reckon [.ref 62, .ref 1, .ref 37] M (fun M1 => AMi d iX1_outcomeFor [.ref 74, .ref 1, .int x1, .int x2, .int x3] M1 (fun r2 M2 => (¬ x4 = 0 → Q (some (M2 74 2)) M2) ∧ (x4 = 0 → Q (some r2) M2)))) ∧ ((inV x4 0 1) = 0 → Q (some (-1000)) M)))) : AX9_against (d + 1) Q 32 [lR 0, lI x1, lI x2, lI x3, lI x4, none, none] [.int s0] M := by
  refine aw_istore (L2 := [lR 0, lI x1, lI x2, lI x3, lI x4, lI s0, none]) dX9_against_32 (by decide) rfl ?_
  refine aw_iload dX9_against_34 rfl ?_
  refine aw_if_eq (tgt := 58) dX9_against_36 (by decide) (fun z => ?_) (fun z => ?_)
  · replace h := h.1 z
    refine aw_sipush (v := (-1000)) dX9_against_58 (by decide) ?_
    exact aw_iret dX9_against_61 rfl rfl h
  · replace h := h.2 z
    refine aw_iload_n dX9_against_39 rfl rfl ?_
    refine aw_iconst (v := 1) dX9_against_40 (by decide) ?_
    refine aw_iconst (v := 4) dX9_against_41 (by decide) ?_
    refine aw_callS (mi := iX9_within) (av := [.int x3, .int 1, .int 4]) (st := []) dX9_against_42 ml_X9_85 kX9_within rfl rfl (Nat.le_of_ble_eq_true rfl) (AM.mono (p_X9_within _ _ _) (fun r9 M9 e9 => ?_))
    obtain ⟨rfl, rfl⟩ := e9
    refine aw_if_eq (tgt := 58) dX9_against_45 (by decide) (fun z => ?_) (fun z => ?_)
    · replace h := h.1 z
      refine aw_sipush (v := (-1000)) dX9_against_58 (by decide) ?_
      exact aw_iret dX9_against_61 rfl rfl h
    · replace h := h.2 z
      refine aw_iload dX9_against_48 rfl ?_
      refine aw_iconst (v := 0) dX9_against_50 (by decide) ?_
      refine aw_iconst (v := 1) dX9_against_51 (by decide) ?_
      refine aw_callS (mi := iX9_within) (av := [.int x4, .int 0, .int 1]) (st := []) dX9_against_52 ml_X9_85 kX9_within rfl rfl (Nat.le_of_ble_eq_true rfl) (AM.mono (p_X9_within _ _ _) (fun r9 M9 e9 => ?_))
      obtain ⟨rfl, rfl⟩ := e9
      refine aw_if_ne (tgt := 62) dX9_against_55 (by decide) (fun z => ?_) (fun z => ?_)
      · replace h := h.1 z
        refine aw_aload_n dX9_against_62 rfl rfl ?_
        refine aw_getf dX9_against_63 fl_X9_54 (by decide) ce_0 rfl (v := .ref 62) rfl ?_
        refine aw_aload_n dX9_against_66 rfl rfl ?_
        refine aw_getf dX9_against_67 fl_X9_12 (by decide) ce_0 rfl (v := .ref 1) rfl ?_
        refine aw_aload_n dX9_against_70 rfl rfl ?_
        refine aw_getf dX9_against_71 fl_X9_31 (by decide) ce_0 rfl (v := .ref 36) rfl ?_
        refine aw_iconst (v := 0) dX9_against_74 (by decide) ?_
        refine aw_aald dX9_against_75 (by decide) ce_36 (by unfold vp_in; decide) rfl ?_
        refine aw_callV (mi := iX6_reckon) (av := [.ref 1, .ref 37]) (st := []) dX9_against_76 ml_X9_132 kX6_reckon (by decide) ce_62 clX6 rfl rfl rfl (Nat.le_of_ble_eq_true rfl) (AM.mono h (fun r9 M1 h => ?_))
        obtain ⟨rfl, h⟩ := h
        refine aw_aload_n dX9_against_79 rfl rfl ?_
        refine aw_getf dX9_against_80 fl_X9_77 (by decide) ce_0 rfl (v := .ref 74) rfl ?_
        refine aw_aload_n dX9_against_83 rfl rfl ?_
        refine aw_getf dX9_against_84 fl_X9_12 (by decide) ce_0 rfl (v := .ref 1) rfl ?_
        refine aw_iload_n dX9_against_87 rfl rfl ?_
        refine aw_iload_n dX9_against_88 rfl rfl ?_
        refine aw_iload_n dX9_against_89 rfl rfl ?_
        refine aw_callV (mi := iX1_outcomeFor) (av := [.ref 1, .int x1, .int x2, .int x3]) (st := []) dX9_against_90 ml_X9_213 kX1_outcomeFor (by decide) ce_74 clX1 rfl rfl rfl (Nat.le_of_ble_eq_true rfl) (AM.mono h (fun r9 M2 h => ?_))
        obtain ⟨r2, rfl, h⟩ := h
        refine aw_istore (L2 := [lR 0, lI x1, lI x2, lI x3, lI x4, lI s0, lI r2]) dX9_against_93 (by decide) rfl ?_
        refine aw_iload dX9_against_95 rfl ?_
        refine aw_if_ne (tgt := 105) dX9_against_97 (by decide) (fun z => ?_) (fun z => ?_)
        · replace h := h.1 z
          refine aw_aload_n dX9_against_105 rfl rfl ?_
          refine aw_getf dX9_against_106 fl_X9_77 (by decide) ce_0 rfl (v := .ref 74) rfl ?_
          refine aw_getf dX9_against_109 fl_X9_217 (by decide) ce_74 rfl (v := .int (M2 74 2)) rfl ?_
          exact aw_iret dX9_against_112 rfl rfl h
        · replace h := h.2 z
          refine aw_iload dX9_against_100 rfl ?_
          refine aw_goto (tgt := 112) dX9_against_102 (by decide) ?_
          exact aw_iret dX9_against_112 rfl rfl h
      · replace h := h.2 z
        refine aw_sipush (v := (-1000)) dX9_against_58 (by decide) ?_
        exact aw_iret dX9_against_61 rfl rfl h
abbrev AX9_whom (d : Nat) (Q : Option Int32 → Mem → Prop) (pc : Nat) (L : List (Option Value)) (st : List Value) (M : Mem) : Prop := AW none RX9 cX9_whom 11 (some .int) d Q pc L st M
theorem eX9_whom {d : Nat} {Q : Option Int32 → Mem → Prop} (M : Mem) (x1 x2 x3 : Int32) (h : AX9_whom d Q 0 [lR 0, lI x1, lI x2, lI x3, none, none, none, none, none, none, none] [] M) : AM d iX9_whom [.ref 0, .int x1, .int x2, .int x3] M Q := AM.of2 (by decide) rfl rfl h
theorem bX9_whom_0 {d : Nat} {Q : Option Int32 → Mem → Prop} (M : Mem) (x1 x2 x3 : Int32) (h : (¬ (x1 &&& ((M 1 8) ^^^ (-1))) = 0 → AX9_whom (d + 1) Q 46 [lR 0, lI x1, lI x2, lI x3, lI (bcV x1), none, none, none, none, none, none] [] M) ∧ ((x1 &&& ((M 1 8) ^^^ (-1))) = 0 → (8 < (bcV x1) → AX9_whom (d + 1) Q 46 [lR 0, lI x1, lI x2, lI x3, lI (bcV x1), none, none, none, none, none, none] [] M) ∧ (¬ 8 < (bcV x1) → ((inV x2 1 4) = 0 → AX9_whom (d + 1) Q 46 [lR 0, lI x1, lI x2, lI x3, lI (bcV x1), none, none, none, none, none, none] [] M) ∧ (¬ (inV x2 1 4) = 0 → ((bcV x1) < x2 → AX9_whom (d + 1) Q 46 [lR 0, lI x1, lI x2, lI x3, lI (bcV x1), none, none, none, none, none, none] [] M) ∧ (¬ (bcV x1) < x2 → AX9_whom (d + 1) Q 47 [lR 0, lI x1, lI x2, lI x3, lI (bcV x1), none, none, none, none, none, none] [.int 1] M))))) : AX9_whom (d + 1) Q 0 [lR 0, lI x1, lI x2, lI x3, none, none, none, none, none, none, none] [] M := by
  refine aw_iload_n dX9_whom_0 rfl rfl ?_
  refine aw_callS (mi := iJ6_bitCount_0f7a4) (av := [.int x1]) (st := []) dX9_whom_1 ml_X9_185 kJ6_bitCount_0f7a4 rfl rfl (Nat.le_of_ble_eq_true rfl) (AM.mono (p_J6_bitCount _) (fun r9 M9 e9 => ?_))
  obtain ⟨rfl, rfl⟩ := e9
  refine aw_istore (L2 := [lR 0, lI x1, lI x2, lI x3, lI (bcV x1), none, none, none, none, none, none]) dX9_whom_4 (by decide) rfl ?_
  refine aw_iload_n dX9_whom_6 rfl rfl ?_
  refine aw_aload_n dX9_whom_7 rfl rfl ?_
  refine aw_getf dX9_whom_8 fl_X9_12 (by decide) ce_0 rfl (v := .ref 1) rfl ?_
  refine aw_getf dX9_whom_11 fl_X9_104 (by decide) ce_1 rfl (v := .int (M 1 8)) rfl ?_
  refine aw_iconst (v := (-1)) dX9_whom_14 (by decide) ?_
  refine aw_ixor dX9_whom_15 ?_
  refine aw_iand dX9_whom_16 ?_
  refine aw_if_ne (tgt := 46) dX9_whom_17 (by decide) (fun z => ?_) (fun z => ?_)
  · replace h := h.1 z
    exact h
  · replace h := h.2 z
    refine aw_iload dX9_whom_20 rfl ?_
    refine aw_bipush (v := 8) dX9_whom_22 (by decide) ?_
    refine aw_icmp_gt (tgt := 46) dX9_whom_24 (by decide) (fun z => ?_) (fun z => ?_)
    · replace h := h.1 z
      exact h
    · replace h := h.2 z
      refine aw_iload_n dX9_whom_27 rfl rfl ?_
      refine aw_iconst (v := 1) dX9_whom_28 (by decide) ?_
      refine aw_iconst (v := 4) dX9_whom_29 (by decide) ?_
      refine aw_callS (mi := iX9_within) (av := [.int x2, .int 1, .int 4]) (st := []) dX9_whom_30 ml_X9_85 kX9_within rfl rfl (Nat.le_of_ble_eq_true rfl) (AM.mono (p_X9_within _ _ _) (fun r9 M9 e9 => ?_))
      obtain ⟨rfl, rfl⟩ := e9
      refine aw_if_eq (tgt := 46) dX9_whom_33 (by decide) (fun z => ?_) (fun z => ?_)
      · replace h := h.1 z
        exact h
      · replace h := h.2 z
        refine aw_iload_n dX9_whom_36 rfl rfl ?_
        refine aw_iload dX9_whom_37 rfl ?_
        refine aw_icmp_gt (tgt := 46) dX9_whom_39 (by decide) (fun z => ?_) (fun z => ?_)
        · replace h := h.1 z
          exact h
        · replace h := h.2 z
          refine aw_iconst (v := 1) dX9_whom_42 (by decide) ?_
          refine aw_goto (tgt := 47) dX9_whom_43 (by decide) ?_
          exact h
theorem bX9_whom_46 {d : Nat} {Q : Option Int32 → Mem → Prop} (M : Mem) (x1 x2 x3 x4 : Int32) (h : AX9_whom (d + 1) Q 47 [lR 0, lI x1, lI x2, lI x3, lI x4, none, none, none, none, none, none] [.int 0] M) : AX9_whom (d + 1) Q 46 [lR 0, lI x1, lI x2, lI x3, lI x4, none, none, none, none, none, none] [] M := by
  refine aw_iconst (v := 0) dX9_whom_46 (by decide) ?_
  exact h
theorem bX9_whom_47 {d : Nat} {Q : Option Int32 → Mem → Prop} (M : Mem) (x1 x2 x3 x4 s0 : Int32) (h : (s0 = 0 → Q (some (-1)) M) ∧ (¬ s0 = 0 → (¬ (inV x3 0 1) = 0 → AMv d iX6_reckon [.ref 62, .ref 1, .ref 37] M (fun M1 => AX9_whom (d + 1) Q 94 [lR 0, lI x1, lI x2, lI x3, lI x4, none, lI (-1), lI 0, lI 0, lI 1, none] [] M1)) ∧ ((inV x3 0 1) = 0 → Q (some (-1)) M))) : AX9_whom (d + 1) Q 47 [lR 0, lI x1, lI x2, lI x3, lI x4, none, none, none, none, none, none] [.int s0] M := by
  refine aw_istore (L2 := [lR 0, lI x1, lI x2, lI x3, lI x4, lI s0, none, none, none, none, none]) dX9_whom_47 (by decide) rfl ?_
  refine aw_iload dX9_whom_49 rfl ?_
  refine aw_if_eq (tgt := 63) dX9_whom_51 (by decide) (fun z => ?_) (fun z => ?_)
  · replace h := h.1 z
    refine aw_iconst (v := (-1)) dX9_whom_63 (by decide) ?_
    exact aw_iret dX9_whom_64 rfl rfl h
  · replace h := h.2 z
    refine aw_iload_n dX9_whom_54 rfl rfl ?_
    refine aw_iconst (v := 0) dX9_whom_55 (by decide) ?_
    refine aw_iconst (v := 1) dX9_whom_56 (by decide) ?_
    refine aw_callS (mi := iX9_within) (av := [.int x3, .int 0, .int 1]) (st := []) dX9_whom_57 ml_X9_85 kX9_within rfl rfl (Nat.le_of_ble_eq_true rfl) (AM.mono (p_X9_within _ _ _) (fun r9 M9 e9 => ?_))
    obtain ⟨rfl, rfl⟩ := e9
    refine aw_if_ne (tgt := 65) dX9_whom_60 (by decide) (fun z => ?_) (fun z => ?_)
    · replace h := h.1 z
      refine aw_aload_n dX9_whom_65 rfl rfl ?_
      refine aw_getf dX9_whom_66 fl_X9_54 (by decide) ce_0 rfl (v := .ref 62) rfl ?_
      refine aw_aload_n dX9_whom_69 rfl rfl ?_
      refine aw_getf dX9_whom_70 fl_X9_12 (by decide) ce_0 rfl (v := .ref 1) rfl ?_
      refine aw_aload_n dX9_whom_73 rfl rfl ?_
      refine aw_getf dX9_whom_74 fl_X9_31 (by decide) ce_0 rfl (v := .ref 36) rfl ?_
      refine aw_iconst (v := 0) dX9_whom_77 (by decide) ?_
      refine aw_aald dX9_whom_78 (by decide) ce_36 (by unfold vp_in; decide) rfl ?_
      refine aw_callV (mi := iX6_reckon) (av := [.ref 1, .ref 37]) (st := []) dX9_whom_79 ml_X9_132 kX6_reckon (by decide) ce_62 clX6 rfl rfl rfl (Nat.le_of_ble_eq_true rfl) (AM.mono h (fun r9 M1 h => ?_))
      obtain ⟨rfl, h⟩ := h
      refine aw_iconst (v := (-1)) dX9_whom_82 (by decide) ?_
      refine aw_istore (L2 := [lR 0, lI x1, lI x2, lI x3, lI x4, lI s0, lI (-1), none, none, none, none]) dX9_whom_83 (by decide) rfl ?_
      refine aw_iconst (v := 0) dX9_whom_85 (by decide) ?_
      refine aw_istore (L2 := [lR 0, lI x1, lI x2, lI x3, lI x4, lI s0, lI (-1), lI 0, none, none, none]) dX9_whom_86 (by decide) rfl ?_
      refine aw_iconst (v := 0) dX9_whom_88 (by decide) ?_
      refine aw_istore (L2 := [lR 0, lI x1, lI x2, lI x3, lI x4, lI s0, lI (-1), lI 0, lI 0, none, none]) dX9_whom_89 (by decide) rfl ?_
      refine aw_iconst (v := 1) dX9_whom_91 (by decide) ?_
      refine aw_istore (L2 := [lR 0, lI x1, lI x2, lI x3, lI x4, lI s0, lI (-1), lI 0, lI 0, lI 1, none]) dX9_whom_92 (by decide) rfl ?_
      exact aw_less (less_k (less_k (less_k (less_k (less_k (less_d (less_k (less_k (less_k (less_k (less_k less_nil))))))))))) h
    · replace h := h.2 z
      refine aw_iconst (v := (-1)) dX9_whom_63 (by decide) ?_
      exact aw_iret dX9_whom_64 rfl rfl h
theorem bX9_whom_94 {d : Nat} {Q : Option Int32 → Mem → Prop} (M : Mem) (x1 x2 x3 x4 x6 x7 x8 x9 : Int32) (h : (((1 : Int32) <<< (x4 &&& 31)) ≤ x9 → (¬ x3 = 0 → Q (some x7) M) ∧ (x3 = 0 → Q (some x6) M)) ∧ (¬ ((1 : Int32) <<< (x4 &&& 31)) ≤ x9 → (¬ (bcV (nxV x8 x1)) = x2 → AX9_whom (d + 1) Q 94 [lR 0, lI x1, lI x2, lI x3, lI x4, none, lI x6, lI x7, lI (nxV x8 x1), lI (x9 + 1), none] [] M) ∧ ((bcV (nxV x8 x1)) = x2 → AMi d iX6_heldOaths [.ref 62, .int (nxV x8 x1)] M (fun r1 M1 => ((bcV r1) ≤ x6 → AX9_whom (d + 1) Q 94 [lR 0, lI x1, lI x2, lI x3, lI x4, none, lI x6, lI x7, lI (nxV x8 x1), lI (x9 + 1), none] [] M1) ∧ (¬ (bcV r1) ≤ x6 → AX9_whom (d + 1) Q 94 [lR 0, lI x1, lI x2, lI x3, lI x4, none, lI (bcV r1), lI (nxV x8 x1), lI (nxV x8 x1), lI (x9 + 1), none] [] M1))))) : AX9_whom (d + 1) Q 94 [lR 0, lI x1, lI x2, lI x3, lI x4, none, lI x6, lI x7, lI x8, lI x9, none] [] M := by
  refine aw_iload dX9_whom_94 rfl ?_
  refine aw_iconst (v := 1) dX9_whom_96 (by decide) ?_
  refine aw_iload dX9_whom_97 rfl ?_
  refine aw_ishl dX9_whom_99 ?_
  refine aw_icmp_ge (tgt := 155) dX9_whom_100 (by decide) (fun z => ?_) (fun z => ?_)
  · replace h := h.1 z
    refine aw_iload_n dX9_whom_155 rfl rfl ?_
    refine aw_if_ne (tgt := 164) dX9_whom_156 (by decide) (fun z => ?_) (fun z => ?_)
    · replace h := h.1 z
      refine aw_iload dX9_whom_164 rfl ?_
      exact aw_iret dX9_whom_166 rfl rfl h
    · replace h := h.2 z
      refine aw_iload dX9_whom_159 rfl ?_
      refine aw_goto (tgt := 166) dX9_whom_161 (by decide) ?_
      exact aw_iret dX9_whom_166 rfl rfl h
  · replace h := h.2 z
    refine aw_iload dX9_whom_103 rfl ?_
    refine aw_iload_n dX9_whom_105 rfl rfl ?_
    refine aw_callS (mi := iX9_nextSubset) (av := [.int x8, .int x1]) (st := []) dX9_whom_106 ml_X9_220 kX9_nextSubset rfl rfl (Nat.le_of_ble_eq_true rfl) (AM.mono (p_X9_nextSubset _ _) (fun r9 M9 e9 => ?_))
    obtain ⟨rfl, rfl⟩ := e9
    refine aw_istore (L2 := [lR 0, lI x1, lI x2, lI x3, lI x4, none, lI x6, lI x7, lI (nxV x8 x1), lI x9, none]) dX9_whom_109 (by decide) rfl ?_
    refine aw_iload dX9_whom_111 rfl ?_
    refine aw_callS (mi := iJ6_bitCount_0f7a4) (av := [.int (nxV x8 x1)]) (st := []) dX9_whom_113 ml_X9_185 kJ6_bitCount_0f7a4 rfl rfl (Nat.le_of_ble_eq_true rfl) (AM.mono (p_J6_bitCount _) (fun r9 M9 e9 => ?_))
    obtain ⟨rfl, rfl⟩ := e9
    refine aw_iload_n dX9_whom_116 rfl rfl ?_
    refine aw_icmp_ne (tgt := 149) dX9_whom_117 (by decide) (fun z => ?_) (fun z => ?_)
    · replace h := h.1 z
      refine aw_iinc (y := 1) (L2 := [lR 0, lI x1, lI x2, lI x3, lI x4, none, lI x6, lI x7, lI (nxV x8 x1), lI (x9 + 1), none]) dX9_whom_149 rfl (by decide) (by decide) rfl ?_
      refine aw_goto (tgt := 94) dX9_whom_152 (by decide) ?_
      exact h
    · replace h := h.2 z
      refine aw_aload_n dX9_whom_120 rfl rfl ?_
      refine aw_getf dX9_whom_121 fl_X9_54 (by decide) ce_0 rfl (v := .ref 62) rfl ?_
      refine aw_iload dX9_whom_124 rfl ?_
      refine aw_callV (mi := iX6_heldOaths) (av := [.int (nxV x8 x1)]) (st := []) dX9_whom_126 ml_X9_223 kX6_heldOaths (by decide) ce_62 clX6 rfl rfl rfl (Nat.le_of_ble_eq_true rfl) (AM.mono h (fun r9 M1 h => ?_))
      obtain ⟨r1, rfl, h⟩ := h
      refine aw_callS (mi := iJ6_bitCount_0f7a4) (av := [.int r1]) (st := []) dX9_whom_129 ml_X9_185 kJ6_bitCount_0f7a4 rfl rfl (Nat.le_of_ble_eq_true rfl) (AM.mono (p_J6_bitCount _) (fun r9 M9 e9 => ?_))
      obtain ⟨rfl, rfl⟩ := e9
      refine aw_istore (L2 := [lR 0, lI x1, lI x2, lI x3, lI x4, none, lI x6, lI x7, lI (nxV x8 x1), lI x9, lI (bcV r1)]) dX9_whom_132 (by decide) rfl ?_
      refine aw_iload dX9_whom_134 rfl ?_
      refine aw_iload dX9_whom_136 rfl ?_
      refine aw_icmp_le (tgt := 149) dX9_whom_138 (by decide) (fun z => ?_) (fun z => ?_)
      · replace h := h.1 z
        refine aw_iinc (y := 1) (L2 := [lR 0, lI x1, lI x2, lI x3, lI x4, none, lI x6, lI x7, lI (nxV x8 x1), lI (x9 + 1), lI (bcV r1)]) dX9_whom_149 rfl (by decide) (by decide) rfl ?_
        refine aw_goto (tgt := 94) dX9_whom_152 (by decide) ?_
        exact aw_less (less_k (less_k (less_k (less_k (less_k (less_k (less_k (less_k (less_k (less_k (less_d less_nil))))))))))) h
      · replace h := h.2 z
        refine aw_iload dX9_whom_141 rfl ?_
        refine aw_istore (L2 := [lR 0, lI x1, lI x2, lI x3, lI x4, none, lI (bcV r1), lI x7, lI (nxV x8 x1), lI x9, lI (bcV r1)]) dX9_whom_143 (by decide) rfl ?_
        refine aw_iload dX9_whom_145 rfl ?_
        refine aw_istore (L2 := [lR 0, lI x1, lI x2, lI x3, lI x4, none, lI (bcV r1), lI (nxV x8 x1), lI (nxV x8 x1), lI x9, lI (bcV r1)]) dX9_whom_147 (by decide) rfl ?_
        refine aw_iinc (y := 1) (L2 := [lR 0, lI x1, lI x2, lI x3, lI x4, none, lI (bcV r1), lI (nxV x8 x1), lI (nxV x8 x1), lI (x9 + 1), lI (bcV r1)]) dX9_whom_149 rfl (by decide) (by decide) rfl ?_
        refine aw_goto (tgt := 94) dX9_whom_152 (by decide) ?_
        exact aw_less (less_k (less_k (less_k (less_k (less_k (less_k (less_k (less_k (less_k (less_k (less_d less_nil))))))))))) h
abbrev AX9_sure (d : Nat) (Q : Option Int32 → Mem → Prop) (pc : Nat) (L : List (Option Value)) (st : List Value) (M : Mem) : Prop := AW none RX9 cX9_sure 2 (some .int) d Q pc L st M
theorem eX9_sure {d : Nat} {Q : Option Int32 → Mem → Prop} (M : Mem) (x1 : Int32) (h : AX9_sure d Q 0 [lR 0, lI x1] [] M) : AM d iX9_sure [.ref 0, .int x1] M Q := AM.of2 (by decide) rfl rfl h
theorem bX9_sure_0 {d : Nat} {Q : Option Int32 → Mem → Prop} (M : Mem) (x1 : Int32) (h : (¬ (isPV (M 1 9) x1) = 0 → AMv d iX6_reckon [.ref 62, .ref 1, .ref 37] M (fun M1 => (vp_in x1 12) ∧ ((vp_in x1 12) ∧ (AMi d iX6_outlasts [.ref 62, .int (M1 7 (ix x1)), .int (M1 8 (ix x1)), .int 1] M1 (fun r2 M2 => (r2 = 0 → Q (some 0) M2) ∧ (¬ r2 = 0 → Q (some 1) M2)))))) ∧ ((isPV (M 1 9) x1) = 0 → Q (some (-1)) M)) : AX9_sure (d + 1) Q 0 [lR 0, lI x1] [] M := by
  refine aw_aload_n dX9_sure_0 rfl rfl ?_
  refine aw_getf dX9_sure_1 fl_X9_12 (by decide) ce_0 rfl (v := .ref 1) rfl ?_
  refine aw_iload_n dX9_sure_4 rfl rfl ?_
  refine aw_callV (mi := iX8_isOath) (av := [.int x1]) (st := []) dX9_sure_5 ml_X9_149 kX8_isOath (by decide) ce_1 clX8 rfl rfl rfl (Nat.le_of_ble_eq_true rfl) (AM.mono (p_X8_isOath _ isV_1) (fun r9 M9 e9 => ?_))
  obtain ⟨rfl, rfl⟩ := e9
  refine aw_if_ne (tgt := 13) dX9_sure_8 (by decide) (fun z => ?_) (fun z => ?_)
  · replace h := h.1 z
    refine aw_aload_n dX9_sure_13 rfl rfl ?_
    refine aw_getf dX9_sure_14 fl_X9_54 (by decide) ce_0 rfl (v := .ref 62) rfl ?_
    refine aw_aload_n dX9_sure_17 rfl rfl ?_
    refine aw_getf dX9_sure_18 fl_X9_12 (by decide) ce_0 rfl (v := .ref 1) rfl ?_
    refine aw_aload_n dX9_sure_21 rfl rfl ?_
    refine aw_getf dX9_sure_22 fl_X9_31 (by decide) ce_0 rfl (v := .ref 36) rfl ?_
    refine aw_iconst (v := 0) dX9_sure_25 (by decide) ?_
    refine aw_aald dX9_sure_26 (by decide) ce_36 (by unfold vp_in; decide) rfl ?_
    refine aw_callV (mi := iX6_reckon) (av := [.ref 1, .ref 37]) (st := []) dX9_sure_27 ml_X9_132 kX6_reckon (by decide) ce_62 clX6 rfl rfl rfl (Nat.le_of_ble_eq_true rfl) (AM.mono h (fun r9 M1 h => ?_))
    obtain ⟨rfl, h⟩ := h
    refine aw_aload_n dX9_sure_30 rfl rfl ?_
    refine aw_getf dX9_sure_31 fl_X9_54 (by decide) ce_0 rfl (v := .ref 62) rfl ?_
    refine aw_aload_n dX9_sure_34 rfl rfl ?_
    refine aw_getf dX9_sure_35 fl_X9_12 (by decide) ce_0 rfl (v := .ref 1) rfl ?_
    refine aw_getf dX9_sure_38 fl_X9_164 (by decide) ce_1 rfl (v := .ref 7) rfl ?_
    refine aw_iload_n dX9_sure_41 rfl rfl ?_
    obtain ⟨h9, h⟩ := h
    refine aw_iald dX9_sure_42 (by decide) ce_7 h9 ?_
    refine aw_aload_n dX9_sure_43 rfl rfl ?_
    refine aw_getf dX9_sure_44 fl_X9_12 (by decide) ce_0 rfl (v := .ref 1) rfl ?_
    refine aw_getf dX9_sure_47 fl_X9_152 (by decide) ce_1 rfl (v := .ref 8) rfl ?_
    refine aw_iload_n dX9_sure_50 rfl rfl ?_
    obtain ⟨h9, h⟩ := h
    refine aw_iald dX9_sure_51 (by decide) ce_8 h9 ?_
    refine aw_iconst (v := 1) dX9_sure_52 (by decide) ?_
    refine aw_callV (mi := iX6_outlasts) (av := [.int (M1 7 (ix x1)), .int (M1 8 (ix x1)), .int 1]) (st := []) dX9_sure_53 ml_X9_226 kX6_outlasts (by decide) ce_62 clX6 rfl rfl rfl (Nat.le_of_ble_eq_true rfl) (AM.mono h (fun r9 M2 h => ?_))
    obtain ⟨r2, rfl, h⟩ := h
    refine aw_if_eq (tgt := 63) dX9_sure_56 (by decide) (fun z => ?_) (fun z => ?_)
    · replace h := h.1 z
      refine aw_iconst (v := 0) dX9_sure_63 (by decide) ?_
      exact aw_iret dX9_sure_64 rfl rfl h
    · replace h := h.2 z
      refine aw_iconst (v := 1) dX9_sure_59 (by decide) ?_
      refine aw_goto (tgt := 64) dX9_sure_60 (by decide) ?_
      exact aw_iret dX9_sure_64 rfl rfl h
  · replace h := h.2 z
    refine aw_iconst (v := (-1)) dX9_sure_11 (by decide) ?_
    exact aw_iret dX9_sure_12 rfl rfl h
abbrev AX9_found (d : Nat) (Q : Option Int32 → Mem → Prop) (pc : Nat) (L : List (Option Value)) (st : List Value) (M : Mem) : Prop := AW none RX9 cX9_found 3 (some .int) d Q pc L st M
theorem eX9_found {d : Nat} {Q : Option Int32 → Mem → Prop} (M : Mem) (x1 : Int32) (h : AX9_found d Q 0 [lR 0, lI x1, none] [] M) : AM d iX9_found [.ref 0, .int x1] M Q := AM.of2 (by decide) rfl rfl h
theorem bX9_found_0 {d : Nat} {Q : Option Int32 → Mem → Prop} (M : Mem) (x1 : Int32) (h : (¬ (x1 &&& ((((1 : Int32) <<< ((M 1 9) &&& 31)) - 1) ^^^ (-1))) = 0 → Q (some (-1)) M) ∧ ((x1 &&& ((((1 : Int32) <<< ((M 1 9) &&& 31)) - 1) ^^^ (-1))) = 0 → (x1 = 0 → Q (some (-1)) M) ∧ (¬ x1 = 0 → ((M 0 12) < 12 → (vp_in (M 0 12) 12) ∧ (Q (some (((M 0 12) + 1))) (wr (wr M 76 (ix (M 0 12)) x1) 0 12 ((M 0 12) + 1)))) ∧ (¬ (M 0 12) < 12 → Q (some (-1)) M)))) : AX9_found d Q 0 [lR 0, lI x1, none] [] M := by
  refine aw_iconst (v := 1) dX9_found_0 (by decide) ?_
  refine aw_aload_n dX9_found_1 rfl rfl ?_
  refine aw_getf dX9_found_2 fl_X9_12 (by decide) ce_0 rfl (v := .ref 1) rfl ?_
  refine aw_getf dX9_found_5 fl_X9_143 (by decide) ce_1 rfl (v := .int (M 1 9)) rfl ?_
  refine aw_ishl dX9_found_8 ?_
  refine aw_iconst (v := 1) dX9_found_9 (by decide) ?_
  refine aw_isub dX9_found_10 ?_
  refine aw_istore_n (L2 := [lR 0, lI x1, lI (((1 : Int32) <<< ((M 1 9) &&& 31)) - 1)]) dX9_found_11 rfl (by decide) rfl ?_
  refine aw_iload_n dX9_found_12 rfl rfl ?_
  refine aw_iload_n dX9_found_13 rfl rfl ?_
  refine aw_iconst (v := (-1)) dX9_found_14 (by decide) ?_
  refine aw_ixor dX9_found_15 ?_
  refine aw_iand dX9_found_16 ?_
  refine aw_if_ne (tgt := 33) dX9_found_17 (by decide) (fun z => ?_) (fun z => ?_)
  · replace h := h.1 z
    refine aw_iconst (v := (-1)) dX9_found_33 (by decide) ?_
    exact aw_iret dX9_found_34 rfl rfl h
  · replace h := h.2 z
    refine aw_iload_n dX9_found_20 rfl rfl ?_
    refine aw_if_eq (tgt := 33) dX9_found_21 (by decide) (fun z => ?_) (fun z => ?_)
    · replace h := h.1 z
      refine aw_iconst (v := (-1)) dX9_found_33 (by decide) ?_
      exact aw_iret dX9_found_34 rfl rfl h
    · replace h := h.2 z
      refine aw_aload_n dX9_found_24 rfl rfl ?_
      refine aw_getf dX9_found_25 fl_X9_229 (by decide) ce_0 rfl (v := .int (M 0 12)) rfl ?_
      refine aw_bipush (v := 12) dX9_found_28 (by decide) ?_
      refine aw_icmp_lt (tgt := 35) dX9_found_30 (by decide) (fun z => ?_) (fun z => ?_)
      · replace h := h.1 z
        refine aw_aload_n dX9_found_35 rfl rfl ?_
        refine aw_getf dX9_found_36 fl_X9_81 (by decide) ce_0 rfl (v := .ref 76) rfl ?_
        refine aw_aload_n dX9_found_39 rfl rfl ?_
        refine aw_getf dX9_found_40 fl_X9_229 (by decide) ce_0 rfl (v := .int (M 0 12)) rfl ?_
        refine aw_iload_n dX9_found_43 rfl rfl ?_
        obtain ⟨h9, h⟩ := h
        refine aw_iast dX9_found_44 (by decide) ce_76 h9 ?_
        refine aw_aload_n dX9_found_45 rfl rfl ?_
        refine aw_dup dX9_found_46 rfl ?_
        refine aw_getf dX9_found_47 fl_X9_229 (by decide) ce_0 rfl (v := .int (M 0 12)) rfl ?_
        refine aw_iconst (v := 1) dX9_found_50 (by decide) ?_
        refine aw_iadd dX9_found_51 ?_
        refine aw_putf dX9_found_52 fp_X9_229 (by decide) ce_0 rfl rfl rfl ?_
        refine aw_aload_n dX9_found_55 rfl rfl ?_
        refine aw_getf dX9_found_56 fl_X9_229 (by decide) ce_0 rfl (v := .int (((M 0 12) + 1))) rfl ?_
        exact aw_iret dX9_found_59 rfl rfl h
      · replace h := h.2 z
        refine aw_iconst (v := (-1)) dX9_found_33 (by decide) ?_
        exact aw_iret dX9_found_34 rfl rfl h
abbrev AX9_least (d : Nat) (Q : Option Int32 → Mem → Prop) (pc : Nat) (L : List (Option Value)) (st : List Value) (M : Mem) : Prop := AW none RX9 cX9_least 5 (some .int) d Q pc L st M
theorem eX9_least {d : Nat} {Q : Option Int32 → Mem → Prop} (M : Mem) (h : AX9_least d Q 0 [lR 0, none, none, none, none] [] M) : AM d iX9_least [.ref 0] M Q := AM.of2 (by decide) rfl rfl h
theorem bX9_least_0 {d : Nat} {Q : Option Int32 → Mem → Prop} (M : Mem) (h : AX9_least (d + 1) Q 9 [lR 0, lI 4095, lI 13, lI 0, none] [] M) : AX9_least (d + 1) Q 0 [lR 0, none, none, none, none] [] M := by
  refine aw_sipush (v := 4095) dX9_least_0 (by decide) ?_
  refine aw_istore_n (L2 := [lR 0, lI 4095, none, none, none]) dX9_least_3 rfl (by decide) rfl ?_
  refine aw_bipush (v := 13) dX9_least_4 (by decide) ?_
  refine aw_istore_n (L2 := [lR 0, lI 4095, lI 13, none, none]) dX9_least_6 rfl (by decide) rfl ?_
  refine aw_iconst (v := 0) dX9_least_7 (by decide) ?_
  refine aw_istore_n (L2 := [lR 0, lI 4095, lI 13, lI 0, none]) dX9_least_8 rfl (by decide) rfl ?_
  exact h
theorem bX9_least_9 {d : Nat} {Q : Option Int32 → Mem → Prop} (M : Mem) (x1 x2 x3 : Int32) (h : (4096 ≤ x3 → Q (some x1) M) ∧ (¬ 4096 ≤ x3 → (x2 ≤ (bcV x3) → AX9_least (d + 1) Q 9 [lR 0, lI x1, lI x2, lI (x3 + 1), none] [] M) ∧ (¬ x2 ≤ (bcV x3) → AMi d iX9_explainsAll [.ref 0, .int x3] M (fun r1 M1 => (r1 = 0 → AX9_least (d + 1) Q 9 [lR 0, lI x1, lI x2, lI (x3 + 1), none] [] M1) ∧ (¬ r1 = 0 → AX9_least (d + 1) Q 9 [lR 0, lI x3, lI (bcV x3), lI (x3 + 1), none] [] M1))))) : AX9_least (d + 1) Q 9 [lR 0, lI x1, lI x2, lI x3, none] [] M := by
  refine aw_iload_n dX9_least_9 rfl rfl ?_
  refine aw_sipush (v := 4096) dX9_least_10 (by decide) ?_
  refine aw_icmp_ge (tgt := 47) dX9_least_13 (by decide) (fun z => ?_) (fun z => ?_)
  · replace h := h.1 z
    refine aw_iload_n dX9_least_47 rfl rfl ?_
    exact aw_iret dX9_least_48 rfl rfl h
  · replace h := h.2 z
    refine aw_iload_n dX9_least_16 rfl rfl ?_
    refine aw_callS (mi := iJ6_bitCount_0f7a4) (av := [.int x3]) (st := []) dX9_least_17 ml_X9_185 kJ6_bitCount_0f7a4 rfl rfl (Nat.le_of_ble_eq_true rfl) (AM.mono (p_J6_bitCount _) (fun r9 M9 e9 => ?_))
    obtain ⟨rfl, rfl⟩ := e9
    refine aw_istore (L2 := [lR 0, lI x1, lI x2, lI x3, lI (bcV x3)]) dX9_least_20 (by decide) rfl ?_
    refine aw_iload dX9_least_22 rfl ?_
    refine aw_iload_n dX9_least_24 rfl rfl ?_
    refine aw_icmp_ge (tgt := 41) dX9_least_25 (by decide) (fun z => ?_) (fun z => ?_)
    · replace h := h.1 z
      refine aw_iinc (y := 1) (L2 := [lR 0, lI x1, lI x2, lI (x3 + 1), lI (bcV x3)]) dX9_least_41 rfl (by decide) (by decide) rfl ?_
      refine aw_goto (tgt := 9) dX9_least_44 (by decide) ?_
      exact aw_less (less_k (less_k (less_k (less_k (less_d less_nil))))) h
    · replace h := h.2 z
      refine aw_aload_n dX9_least_28 rfl rfl ?_
      refine aw_iload_n dX9_least_29 rfl rfl ?_
      refine aw_callV (mi := iX9_explainsAll) (av := [.int x3]) (st := []) dX9_least_30 ml_X9_232 kX9_explainsAll (by decide) ce_0 clX9 rfl rfl rfl (Nat.le_of_ble_eq_true rfl) (AM.mono h (fun r9 M1 h => ?_))
      obtain ⟨r1, rfl, h⟩ := h
      refine aw_if_eq (tgt := 41) dX9_least_33 (by decide) (fun z => ?_) (fun z => ?_)
      · replace h := h.1 z
        refine aw_iinc (y := 1) (L2 := [lR 0, lI x1, lI x2, lI (x3 + 1), lI (bcV x3)]) dX9_least_41 rfl (by decide) (by decide) rfl ?_
        refine aw_goto (tgt := 9) dX9_least_44 (by decide) ?_
        exact aw_less (less_k (less_k (less_k (less_k (less_d less_nil))))) h
      · replace h := h.2 z
        refine aw_iload_n dX9_least_36 rfl rfl ?_
        refine aw_istore_n (L2 := [lR 0, lI x3, lI x2, lI x3, lI (bcV x3)]) dX9_least_37 rfl (by decide) rfl ?_
        refine aw_iload dX9_least_38 rfl ?_
        refine aw_istore_n (L2 := [lR 0, lI x3, lI (bcV x3), lI x3, lI (bcV x3)]) dX9_least_40 rfl (by decide) rfl ?_
        refine aw_iinc (y := 1) (L2 := [lR 0, lI x3, lI (bcV x3), lI (x3 + 1), lI (bcV x3)]) dX9_least_41 rfl (by decide) (by decide) rfl ?_
        refine aw_goto (tgt := 9) dX9_least_44 (by decide) ?_
        exact aw_less (less_k (less_k (less_k (less_k (less_d less_nil))))) h
abbrev AX9_sideBySide (d : Nat) (Q : Option Int32 → Mem → Prop) (pc : Nat) (L : List (Option Value)) (st : List Value) (M : Mem) : Prop := AW none RX9 cX9_sideBySide 4 (some .int) d Q pc L st M
theorem eX9_sideBySide {d : Nat} {Q : Option Int32 → Mem → Prop} (M : Mem) (x1 : Int32) (h : AX9_sideBySide d Q 0 [lR 0, lI x1, none, none] [] M) : AM d iX9_sideBySide [.ref 0, .int x1] M Q := AM.of2 (by decide) rfl rfl h
theorem bX9_sideBySide_0 {d : Nat} {Q : Option Int32 → Mem → Prop} (M : Mem) (x1 : Int32) (h : (¬ (inV x1 0 1) = 0 → ∃ la0, isA la0 ∧ vp_in x1 2 ∧ ([37, 45] : List Nat)[ix x1]? = some la0 ∧ (AMi d iX9_heldBy [.ref 0, .ref 1, .ref la0] M (fun r2 M2 => ∃ la2, isA la2 ∧ vp_in (1 - x1) 2 ∧ ([37, 45] : List Nat)[ix (1 - x1)]? = some la2 ∧ (AMi d iX9_heldBy [.ref 0, .ref 1, .ref la2] M2 (fun r4 M4 => Q (some (r2 &&& (r4 ^^^ (-1)))) M4))))) ∧ ((inV x1 0 1) = 0 → Q (some (-1)) M)) : AX9_sideBySide (d + 1) Q 0 [lR 0, lI x1, none, none] [] M := by
  refine aw_iload_n dX9_sideBySide_0 rfl rfl ?_
  refine aw_iconst (v := 0) dX9_sideBySide_1 (by decide) ?_
  refine aw_iconst (v := 1) dX9_sideBySide_2 (by decide) ?_
  refine aw_callS (mi := iX9_within) (av := [.int x1, .int 0, .int 1]) (st := []) dX9_sideBySide_3 ml_X9_85 kX9_within rfl rfl (Nat.le_of_ble_eq_true rfl) (AM.mono (p_X9_within _ _ _) (fun r9 M9 e9 => ?_))
  obtain ⟨rfl, rfl⟩ := e9
  refine aw_if_ne (tgt := 11) dX9_sideBySide_6 (by decide) (fun z => ?_) (fun z => ?_)
  · replace h := h.1 z
    refine aw_aload_n dX9_sideBySide_11 rfl rfl ?_
    refine aw_aload_n dX9_sideBySide_12 rfl rfl ?_
    refine aw_getf dX9_sideBySide_13 fl_X9_12 (by decide) ce_0 rfl (v := .ref 1) rfl ?_
    refine aw_aload_n dX9_sideBySide_16 rfl rfl ?_
    refine aw_getf dX9_sideBySide_17 fl_X9_31 (by decide) ce_0 rfl (v := .ref 36) rfl ?_
    refine aw_iload_n dX9_sideBySide_20 rfl rfl ?_
    obtain ⟨la0, h_la0, h8, h9, h⟩ := h
    refine aw_aald dX9_sideBySide_21 (by decide) ce_36 h8 h9 ?_
    refine aw_callV (mi := iX9_heldBy) (av := [.ref 1, .ref la0]) (st := []) dX9_sideBySide_22 ml_X9_181 kX9_heldBy (by decide) ce_0 clX9 rfl rfl rfl (Nat.le_of_ble_eq_true rfl) (AM.mono h (fun r9 M2 h => ?_))
    obtain ⟨r2, rfl, h⟩ := h
    refine aw_istore_n (L2 := [lR 0, lI x1, lI r2, none]) dX9_sideBySide_25 rfl (by decide) rfl ?_
    refine aw_aload_n dX9_sideBySide_26 rfl rfl ?_
    refine aw_aload_n dX9_sideBySide_27 rfl rfl ?_
    refine aw_getf dX9_sideBySide_28 fl_X9_12 (by decide) ce_0 rfl (v := .ref 1) rfl ?_
    refine aw_aload_n dX9_sideBySide_31 rfl rfl ?_
    refine aw_getf dX9_sideBySide_32 fl_X9_31 (by decide) ce_0 rfl (v := .ref 36) rfl ?_
    refine aw_iconst (v := 1) dX9_sideBySide_35 (by decide) ?_
    refine aw_iload_n dX9_sideBySide_36 rfl rfl ?_
    refine aw_isub dX9_sideBySide_37 ?_
    obtain ⟨la2, h_la2, h8, h9, h⟩ := h
    refine aw_aald dX9_sideBySide_38 (by decide) ce_36 h8 h9 ?_
    refine aw_callV (mi := iX9_heldBy) (av := [.ref 1, .ref la2]) (st := []) dX9_sideBySide_39 ml_X9_181 kX9_heldBy (by decide) ce_0 clX9 rfl rfl rfl (Nat.le_of_ble_eq_true rfl) (AM.mono h (fun r9 M4 h => ?_))
    obtain ⟨r4, rfl, h⟩ := h
    refine aw_istore_n (L2 := [lR 0, lI x1, lI r2, lI r4]) dX9_sideBySide_42 rfl (by decide) rfl ?_
    refine aw_iload_n dX9_sideBySide_43 rfl rfl ?_
    refine aw_iload_n dX9_sideBySide_44 rfl rfl ?_
    refine aw_iconst (v := (-1)) dX9_sideBySide_45 (by decide) ?_
    refine aw_ixor dX9_sideBySide_46 ?_
    refine aw_iand dX9_sideBySide_47 ?_
    exact aw_iret dX9_sideBySide_48 rfl rfl h
  · replace h := h.2 z
    refine aw_iconst (v := (-1)) dX9_sideBySide_9 (by decide) ?_
    exact aw_iret dX9_sideBySide_10 rfl rfl h
abbrev AX9_seed (d : Nat) (Q : Option Int32 → Mem → Prop) (pc : Nat) (L : List (Option Value)) (st : List Value) (M : Mem) : Prop := AW none RX9 cX9_seed 2 (some .boolean) d Q pc L st M
theorem eX9_seed {d : Nat} {Q : Option Int32 → Mem → Prop} (M : Mem) (x1 : Int32) (h : AX9_seed d Q 0 [lR 0, lI x1] [] M) : AM d iX9_seed [.ref 0, .int x1] M Q := AM.of2 (by decide) rfl rfl h
theorem bX9_seed_0 {d : Nat} {Q : Option Int32 → Mem → Prop} (M : Mem) (x1 : Int32) (h : (¬ (inV x1 0 65535) = 0 → Q (some 1) (wr M 1 11 x1)) ∧ ((inV x1 0 65535) = 0 → Q (some 0) M)) : AX9_seed (d + 1) Q 0 [lR 0, lI x1] [] M := by
  refine aw_iload_n dX9_seed_0 rfl rfl ?_
  refine aw_iconst (v := 0) dX9_seed_1 (by decide) ?_
  refine aw_ldc dX9_seed_2 kc_X9_209 ?_
  refine aw_callS (mi := iX9_within) (av := [.int x1, .int 0, .int 65535]) (st := []) dX9_seed_4 ml_X9_85 kX9_within rfl rfl (Nat.le_of_ble_eq_true rfl) (AM.mono (p_X9_within _ _ _) (fun r9 M9 e9 => ?_))
  obtain ⟨rfl, rfl⟩ := e9
  refine aw_if_ne (tgt := 12) dX9_seed_7 (by decide) (fun z => ?_) (fun z => ?_)
  · replace h := h.1 z
    refine aw_aload_n dX9_seed_12 rfl rfl ?_
    refine aw_getf dX9_seed_13 fl_X9_12 (by decide) ce_0 rfl (v := .ref 1) rfl ?_
    refine aw_iload_n dX9_seed_16 rfl rfl ?_
    refine aw_putf dX9_seed_17 fp_X9_235 (by decide) ce_1 rfl rfl rfl ?_
    refine aw_iconst (v := 1) dX9_seed_20 (by decide) ?_
    exact aw_iret dX9_seed_21 rfl (nar_b (by decide)) h
  · replace h := h.2 z
    refine aw_iconst (v := 0) dX9_seed_10 (by decide) ?_
    exact aw_iret dX9_seed_11 rfl (nar_b (by decide)) h
abbrev AX9_keep (d : Nat) (Q : Option Int32 → Mem → Prop) (pc : Nat) (L : List (Option Value)) (st : List Value) (M : Mem) : Prop := AW none RX9 cX9_keep 1 (some .int) d Q pc L st M
theorem eX9_keep {d : Nat} {Q : Option Int32 → Mem → Prop} (M : Mem) (h : AX9_keep d Q 0 [lR 0] [] M) : AM d iX9_keep [.ref 0] M Q := AM.of2 (by decide) rfl rfl h
theorem bX9_keep_0 {d : Nat} {Q : Option Int32 → Mem → Prop} (M : Mem) (h : AMv d iX8_copyFrom [.ref 12, .ref 1] M (fun M1 => AMi d iX9_heldBy [.ref 0, .ref 1, .ref 37] (wr M1 0 13 1) (fun r2 M2 => Q (some (bcV r2)) M2))) : AX9_keep (d + 1) Q 0 [lR 0] [] M := by
  refine aw_aload_n dX9_keep_0 rfl rfl ?_
  refine aw_getf dX9_keep_1 fl_X9_16 (by decide) ce_0 rfl (v := .ref 12) rfl ?_
  refine aw_aload_n dX9_keep_4 rfl rfl ?_
  refine aw_getf dX9_keep_5 fl_X9_12 (by decide) ce_0 rfl (v := .ref 1) rfl ?_
  refine aw_callV (mi := iX8_copyFrom) (av := [.ref 1]) (st := []) dX9_keep_8 ml_X9_178 kX8_copyFrom (by decide) ce_12 clX8 rfl rfl rfl (Nat.le_of_ble_eq_true rfl) (AM.mono h (fun r9 M1 h => ?_))
  obtain ⟨rfl, h⟩ := h
  refine aw_aload_n dX9_keep_11 rfl rfl ?_
  refine aw_iconst (v := 1) dX9_keep_12 (by decide) ?_
  refine aw_putf dX9_keep_13 fp_X9_238 (by decide) ce_0 rfl (nar_b (by decide)) (fit_b (by decide)) ?_
  refine aw_aload_n dX9_keep_16 rfl rfl ?_
  refine aw_aload_n dX9_keep_17 rfl rfl ?_
  refine aw_getf dX9_keep_18 fl_X9_12 (by decide) ce_0 rfl (v := .ref 1) rfl ?_
  refine aw_aload_n dX9_keep_21 rfl rfl ?_
  refine aw_getf dX9_keep_22 fl_X9_31 (by decide) ce_0 rfl (v := .ref 36) rfl ?_
  refine aw_iconst (v := 0) dX9_keep_25 (by decide) ?_
  refine aw_aald dX9_keep_26 (by decide) ce_36 (by unfold vp_in; decide) rfl ?_
  refine aw_callV (mi := iX9_heldBy) (av := [.ref 1, .ref 37]) (st := []) dX9_keep_27 ml_X9_181 kX9_heldBy (by decide) ce_0 clX9 rfl rfl rfl (Nat.le_of_ble_eq_true rfl) (AM.mono h (fun r9 M2 h => ?_))
  obtain ⟨r2, rfl, h⟩ := h
  refine aw_callS (mi := iJ6_bitCount_0f7a4) (av := [.int r2]) (st := []) dX9_keep_30 ml_X9_185 kJ6_bitCount_0f7a4 rfl rfl (Nat.le_of_ble_eq_true rfl) (AM.mono (p_J6_bitCount _) (fun r9 M9 e9 => ?_))
  obtain ⟨rfl, rfl⟩ := e9
  exact aw_iret dX9_keep_33 rfl rfl h
abbrev AX9_undo (d : Nat) (Q : Option Int32 → Mem → Prop) (pc : Nat) (L : List (Option Value)) (st : List Value) (M : Mem) : Prop := AW none RX9 cX9_undo 1 (some .boolean) d Q pc L st M
theorem eX9_undo {d : Nat} {Q : Option Int32 → Mem → Prop} (M : Mem) (h : AX9_undo d Q 0 [lR 0] [] M) : AM d iX9_undo [.ref 0] M Q := AM.of2 (by decide) rfl rfl h
theorem bX9_undo_0 {d : Nat} {Q : Option Int32 → Mem → Prop} (M : Mem) (h : (¬ (M 0 13) = 0 → AMv d iX8_copyFrom [.ref 1, .ref 12] M (fun M1 => Q (some 1) M1)) ∧ ((M 0 13) = 0 → Q (some 0) M)) : AX9_undo (d + 1) Q 0 [lR 0] [] M := by
  refine aw_aload_n dX9_undo_0 rfl rfl ?_
  refine aw_getf dX9_undo_1 fl_X9_238 (by decide) ce_0 rfl (v := .int (M 0 13)) rfl ?_
  refine aw_if_ne (tgt := 9) dX9_undo_4 (by decide) (fun z => ?_) (fun z => ?_)
  · replace h := h.1 z
    refine aw_aload_n dX9_undo_9 rfl rfl ?_
    refine aw_getf dX9_undo_10 fl_X9_12 (by decide) ce_0 rfl (v := .ref 1) rfl ?_
    refine aw_aload_n dX9_undo_13 rfl rfl ?_
    refine aw_getf dX9_undo_14 fl_X9_16 (by decide) ce_0 rfl (v := .ref 12) rfl ?_
    refine aw_callV (mi := iX8_copyFrom) (av := [.ref 12]) (st := []) dX9_undo_17 ml_X9_178 kX8_copyFrom (by decide) ce_1 clX8 rfl rfl rfl (Nat.le_of_ble_eq_true rfl) (AM.mono h (fun r9 M1 h => ?_))
    obtain ⟨rfl, h⟩ := h
    refine aw_iconst (v := 1) dX9_undo_20 (by decide) ?_
    exact aw_iret dX9_undo_21 rfl (nar_b (by decide)) h
  · replace h := h.2 z
    refine aw_iconst (v := 0) dX9_undo_7 (by decide) ?_
    exact aw_iret dX9_undo_8 rfl (nar_b (by decide)) h
abbrev AX9_check (d : Nat) (Q : Option Int32 → Mem → Prop) (pc : Nat) (L : List (Option Value)) (st : List Value) (M : Mem) : Prop := AW none RX9 cX9_check 3 (some .int) d Q pc L st M
theorem eX9_check {d : Nat} {Q : Option Int32 → Mem → Prop} (M : Mem) (x1 : Int32) (h : AX9_check d Q 0 [lR 0, lI x1, none] [] M) : AM d iX9_check [.ref 0, .int x1] M Q := AM.of2 (by decide) rfl rfl h
theorem bX9_check_0 {d : Nat} {Q : Option Int32 → Mem → Prop} (M : Mem) (x1 : Int32) (h : ((inV x1 0 16) = 0 → Q (some (-2)) M) ∧ (¬ (inV x1 0 16) = 0 → ((x1 * 4) ≤ (M 34 1) → AX9_check (d + 1) Q 36 [lR 0, lI x1, lI 0] [] (wr M 34 1 0)) ∧ (¬ (x1 * 4) ≤ (M 34 1) → Q (some (-2)) M))) : AX9_check (d + 1) Q 0 [lR 0, lI x1, none] [] M := by
  refine aw_iload_n dX9_check_0 rfl rfl ?_
  refine aw_iconst (v := 0) dX9_check_1 (by decide) ?_
  refine aw_bipush (v := 16) dX9_check_2 (by decide) ?_
  refine aw_callS (mi := iX9_within) (av := [.int x1, .int 0, .int 16]) (st := []) dX9_check_4 ml_X9_85 kX9_within rfl rfl (Nat.le_of_ble_eq_true rfl) (AM.mono (p_X9_within _ _ _) (fun r9 M9 e9 => ?_))
  obtain ⟨rfl, rfl⟩ := e9
  refine aw_if_eq (tgt := 23) dX9_check_7 (by decide) (fun z => ?_) (fun z => ?_)
  · replace h := h.1 z
    refine aw_bipush (v := (-2)) dX9_check_23 (by decide) ?_
    exact aw_iret dX9_check_25 rfl rfl h
  · replace h := h.2 z
    refine aw_iload_n dX9_check_10 rfl rfl ?_
    refine aw_iconst (v := 4) dX9_check_11 (by decide) ?_
    refine aw_imul dX9_check_12 ?_
    refine aw_aload_n dX9_check_13 rfl rfl ?_
    refine aw_getf dX9_check_14 fl_X9_25 (by decide) ce_0 rfl (v := .ref 34) rfl ?_
    refine aw_getf dX9_check_17 fl_X9_107 (by decide) ce_34 rfl (v := .int (M 34 1)) rfl ?_
    refine aw_icmp_le (tgt := 26) dX9_check_20 (by decide) (fun z => ?_) (fun z => ?_)
    · replace h := h.1 z
      refine aw_aload_n dX9_check_26 rfl rfl ?_
      refine aw_getf dX9_check_27 fl_X9_25 (by decide) ce_0 rfl (v := .ref 34) rfl ?_
      refine aw_iconst (v := 0) dX9_check_30 (by decide) ?_
      refine aw_putf dX9_check_31 fp_X9_107 (by decide) ce_34 rfl rfl rfl ?_
      refine aw_iconst (v := 0) dX9_check_34 (by decide) ?_
      refine aw_istore_n (L2 := [lR 0, lI x1, lI 0]) dX9_check_35 rfl (by decide) rfl ?_
      exact h
    · replace h := h.2 z
      refine aw_bipush (v := (-2)) dX9_check_23 (by decide) ?_
      exact aw_iret dX9_check_25 rfl rfl h
theorem bX9_check_36 {d : Nat} {Q : Option Int32 → Mem → Prop} (M : Mem) (x1 x2 : Int32) (h : (x1 ≤ x2 → Q (some (-1)) M) ∧ (¬ x1 ≤ x2 → ((isPV (M 1 7) x2) = 0 → Q (some x2) M) ∧ (¬ (isPV (M 1 7) x2) = 0 → AMi d iX7_wordAt [.ref 34, .int x2] M (fun r1 M1 => AMi d iX8_heightOf [.ref 1, .int x2] M1 (fun r2 M2 => (r1 = r2 → AX9_check (d + 1) Q 36 [lR 0, lI x1, lI (x2 + 1)] [] M2) ∧ (¬ r1 = r2 → Q (some x2) M2)))))) : AX9_check (d + 1) Q 36 [lR 0, lI x1, lI x2] [] M := by
  refine aw_iload_n dX9_check_36 rfl rfl ?_
  refine aw_iload_n dX9_check_37 rfl rfl ?_
  refine aw_icmp_ge (tgt := 79) dX9_check_38 (by decide) (fun z => ?_) (fun z => ?_)
  · replace h := h.1 z
    refine aw_iconst (v := (-1)) dX9_check_79 (by decide) ?_
    exact aw_iret dX9_check_80 rfl rfl h
  · replace h := h.2 z
    refine aw_aload_n dX9_check_41 rfl rfl ?_
    refine aw_getf dX9_check_42 fl_X9_12 (by decide) ce_0 rfl (v := .ref 1) rfl ?_
    refine aw_iload_n dX9_check_45 rfl rfl ?_
    refine aw_callV (mi := iX8_isPerson) (av := [.int x2]) (st := []) dX9_check_46 ml_X9_122 kX8_isPerson (by decide) ce_1 clX8 rfl rfl rfl (Nat.le_of_ble_eq_true rfl) (AM.mono (p_X8_isPerson _ isV_1) (fun r9 M9 e9 => ?_))
    obtain ⟨rfl, rfl⟩ := e9
    refine aw_if_eq (tgt := 71) dX9_check_49 (by decide) (fun z => ?_) (fun z => ?_)
    · replace h := h.1 z
      refine aw_iload_n dX9_check_71 rfl rfl ?_
      exact aw_iret dX9_check_72 rfl rfl h
    · replace h := h.2 z
      refine aw_aload_n dX9_check_52 rfl rfl ?_
      refine aw_getf dX9_check_53 fl_X9_25 (by decide) ce_0 rfl (v := .ref 34) rfl ?_
      refine aw_iload_n dX9_check_56 rfl rfl ?_
      refine aw_callV (mi := iX7_wordAt) (av := [.int x2]) (st := []) dX9_check_57 ml_X9_242 kX7_wordAt (by decide) ce_34 clX7 rfl rfl rfl (Nat.le_of_ble_eq_true rfl) (AM.mono h (fun r9 M1 h => ?_))
      obtain ⟨r1, rfl, h⟩ := h
      refine aw_aload_n dX9_check_60 rfl rfl ?_
      refine aw_getf dX9_check_61 fl_X9_12 (by decide) ce_0 rfl (v := .ref 1) rfl ?_
      refine aw_iload_n dX9_check_64 rfl rfl ?_
      refine aw_callV (mi := iX8_heightOf) (av := [.int x2]) (st := [.int r1]) dX9_check_65 ml_X9_125 kX8_heightOf (by decide) ce_1 clX8 rfl rfl rfl (Nat.le_of_ble_eq_true rfl) (AM.mono h (fun r9 M2 h => ?_))
      obtain ⟨r2, rfl, h⟩ := h
      refine aw_icmp_eq (tgt := 73) dX9_check_68 (by decide) (fun z => ?_) (fun z => ?_)
      · replace h := h.1 z
        refine aw_iinc (y := 1) (L2 := [lR 0, lI x1, lI (x2 + 1)]) dX9_check_73 rfl (by decide) (by decide) rfl ?_
        refine aw_goto (tgt := 36) dX9_check_76 (by decide) ?_
        exact h
      · replace h := h.2 z
        refine aw_iload_n dX9_check_71 rfl rfl ?_
        exact aw_iret dX9_check_72 rfl rfl h
abbrev AX9_count (d : Nat) (Q : Option Int32 → Mem → Prop) (pc : Nat) (L : List (Option Value)) (st : List Value) (M : Mem) : Prop := AW none RX9 cX9_count 2 (some .int) d Q pc L st M
theorem eX9_count {d : Nat} {Q : Option Int32 → Mem → Prop} (M : Mem) (x1 : Int32) (h : AX9_count d Q 0 [lR 0, lI x1] [] M) : AM d iX9_count [.ref 0, .int x1] M Q := AM.of2 (by decide) rfl rfl h
theorem bX9_count_0 {d : Nat} {Q : Option Int32 → Mem → Prop} (M : Mem) (x1 : Int32) (h : (x1 < 60 → (x1 < 40 → (x1 < 20 → AMi d iX9_countWhole [.ref 0, .int x1] M (fun r1 M1 => Q (some r1) M1)) ∧ (¬ x1 < 20 → ((isPV (M 1 9) (x1 - 20)) = 0 → Q (some (-1)) M) ∧ (¬ (isPV (M 1 9) (x1 - 20)) = 0 → (vp_in (x1 - 20) 12) ∧ (Q (some (M 8 (ix (x1 - 20)))) M)))) ∧ (¬ x1 < 40 → ((isPV (M 1 7) (x1 - 40)) = 0 → Q (some (-1)) M) ∧ (¬ (isPV (M 1 7) (x1 - 40)) = 0 → (vp_in (x1 - 40) 16) ∧ (Q (some (M 4 (ix (x1 - 40)))) M)))) ∧ (¬ x1 < 60 → ((isPV (M 1 7) (x1 - 60)) = 0 → Q (some (-1)) M) ∧ (¬ (isPV (M 1 7) (x1 - 60)) = 0 → (vp_in (x1 - 60) 16) ∧ (Q (some (M 3 (ix (x1 - 60)))) M)))) : AX9_count (d + 1) Q 0 [lR 0, lI x1] [] M := by
  refine aw_iload_n dX9_count_0 rfl rfl ?_
  refine aw_bipush (v := 60) dX9_count_1 (by decide) ?_
  refine aw_icmp_lt (tgt := 37) dX9_count_3 (by decide) (fun z => ?_) (fun z => ?_)
  · replace h := h.1 z
    refine aw_iload_n dX9_count_37 rfl rfl ?_
    refine aw_bipush (v := 40) dX9_count_38 (by decide) ?_
    refine aw_icmp_lt (tgt := 74) dX9_count_40 (by decide) (fun z => ?_) (fun z => ?_)
    · replace h := h.1 z
      refine aw_iload_n dX9_count_74 rfl rfl ?_
      refine aw_bipush (v := 20) dX9_count_75 (by decide) ?_
      refine aw_icmp_lt (tgt := 111) dX9_count_77 (by decide) (fun z => ?_) (fun z => ?_)
      · replace h := h.1 z
        refine aw_aload_n dX9_count_111 rfl rfl ?_
        refine aw_iload_n dX9_count_112 rfl rfl ?_
        refine aw_callV (mi := iX9_countWhole) (av := [.int x1]) (st := []) dX9_count_113 ml_X9_251 kX9_countWhole (by decide) ce_0 clX9 rfl rfl rfl (Nat.le_of_ble_eq_true rfl) (AM.mono h (fun r9 M1 h => ?_))
        obtain ⟨r1, rfl, h⟩ := h
        exact aw_iret dX9_count_116 rfl rfl h
      · replace h := h.2 z
        refine aw_aload_n dX9_count_80 rfl rfl ?_
        refine aw_getf dX9_count_81 fl_X9_12 (by decide) ce_0 rfl (v := .ref 1) rfl ?_
        refine aw_iload_n dX9_count_84 rfl rfl ?_
        refine aw_bipush (v := 20) dX9_count_85 (by decide) ?_
        refine aw_isub dX9_count_87 ?_
        refine aw_callV (mi := iX8_isOath) (av := [.int (x1 - 20)]) (st := []) dX9_count_88 ml_X9_149 kX8_isOath (by decide) ce_1 clX8 rfl rfl rfl (Nat.le_of_ble_eq_true rfl) (AM.mono (p_X8_isOath _ isV_1) (fun r9 M9 e9 => ?_))
        obtain ⟨rfl, rfl⟩ := e9
        refine aw_if_eq (tgt := 109) dX9_count_91 (by decide) (fun z => ?_) (fun z => ?_)
        · replace h := h.1 z
          refine aw_iconst (v := (-1)) dX9_count_109 (by decide) ?_
          exact aw_iret dX9_count_110 rfl rfl h
        · replace h := h.2 z
          refine aw_aload_n dX9_count_94 rfl rfl ?_
          refine aw_getf dX9_count_95 fl_X9_12 (by decide) ce_0 rfl (v := .ref 1) rfl ?_
          refine aw_getf dX9_count_98 fl_X9_152 (by decide) ce_1 rfl (v := .ref 8) rfl ?_
          refine aw_iload_n dX9_count_101 rfl rfl ?_
          refine aw_bipush (v := 20) dX9_count_102 (by decide) ?_
          refine aw_isub dX9_count_104 ?_
          obtain ⟨h9, h⟩ := h
          refine aw_iald dX9_count_105 (by decide) ce_8 h9 ?_
          refine aw_goto (tgt := 110) dX9_count_106 (by decide) ?_
          exact aw_iret dX9_count_110 rfl rfl h
    · replace h := h.2 z
      refine aw_aload_n dX9_count_43 rfl rfl ?_
      refine aw_getf dX9_count_44 fl_X9_12 (by decide) ce_0 rfl (v := .ref 1) rfl ?_
      refine aw_iload_n dX9_count_47 rfl rfl ?_
      refine aw_bipush (v := 40) dX9_count_48 (by decide) ?_
      refine aw_isub dX9_count_50 ?_
      refine aw_callV (mi := iX8_isPerson) (av := [.int (x1 - 40)]) (st := []) dX9_count_51 ml_X9_122 kX8_isPerson (by decide) ce_1 clX8 rfl rfl rfl (Nat.le_of_ble_eq_true rfl) (AM.mono (p_X8_isPerson _ isV_1) (fun r9 M9 e9 => ?_))
      obtain ⟨rfl, rfl⟩ := e9
      refine aw_if_eq (tgt := 72) dX9_count_54 (by decide) (fun z => ?_) (fun z => ?_)
      · replace h := h.1 z
        refine aw_iconst (v := (-1)) dX9_count_72 (by decide) ?_
        exact aw_iret dX9_count_73 rfl rfl h
      · replace h := h.2 z
        refine aw_aload_n dX9_count_57 rfl rfl ?_
        refine aw_getf dX9_count_58 fl_X9_12 (by decide) ce_0 rfl (v := .ref 1) rfl ?_
        refine aw_getf dX9_count_61 fl_X9_248 (by decide) ce_1 rfl (v := .ref 4) rfl ?_
        refine aw_iload_n dX9_count_64 rfl rfl ?_
        refine aw_bipush (v := 40) dX9_count_65 (by decide) ?_
        refine aw_isub dX9_count_67 ?_
        obtain ⟨h9, h⟩ := h
        refine aw_iald dX9_count_68 (by decide) ce_4 h9 ?_
        refine aw_goto (tgt := 73) dX9_count_69 (by decide) ?_
        exact aw_iret dX9_count_73 rfl rfl h
  · replace h := h.2 z
    refine aw_aload_n dX9_count_6 rfl rfl ?_
    refine aw_getf dX9_count_7 fl_X9_12 (by decide) ce_0 rfl (v := .ref 1) rfl ?_
    refine aw_iload_n dX9_count_10 rfl rfl ?_
    refine aw_bipush (v := 60) dX9_count_11 (by decide) ?_
    refine aw_isub dX9_count_13 ?_
    refine aw_callV (mi := iX8_isPerson) (av := [.int (x1 - 60)]) (st := []) dX9_count_14 ml_X9_122 kX8_isPerson (by decide) ce_1 clX8 rfl rfl rfl (Nat.le_of_ble_eq_true rfl) (AM.mono (p_X8_isPerson _ isV_1) (fun r9 M9 e9 => ?_))
    obtain ⟨rfl, rfl⟩ := e9
    refine aw_if_eq (tgt := 35) dX9_count_17 (by decide) (fun z => ?_) (fun z => ?_)
    · replace h := h.1 z
      refine aw_iconst (v := (-1)) dX9_count_35 (by decide) ?_
      exact aw_iret dX9_count_36 rfl rfl h
    · replace h := h.2 z
      refine aw_aload_n dX9_count_20 rfl rfl ?_
      refine aw_getf dX9_count_21 fl_X9_12 (by decide) ce_0 rfl (v := .ref 1) rfl ?_
      refine aw_getf dX9_count_24 fl_X9_245 (by decide) ce_1 rfl (v := .ref 3) rfl ?_
      refine aw_iload_n dX9_count_27 rfl rfl ?_
      refine aw_bipush (v := 60) dX9_count_28 (by decide) ?_
      refine aw_isub dX9_count_30 ?_
      obtain ⟨h9, h⟩ := h
      refine aw_iald dX9_count_31 (by decide) ce_3 h9 ?_
      refine aw_goto (tgt := 36) dX9_count_32 (by decide) ?_
      exact aw_iret dX9_count_36 rfl rfl h
