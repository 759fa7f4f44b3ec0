abbrev AX10_lives (d : Nat) (Q : Option Int32 → Mem → Prop) (pc : Nat) (L : List (Option Value)) (st : List Value) (M : Mem) : Prop := AW none RX10 cX10_lives 2 (some .boolean) d Q pc L st M
theorem eX10_lives {d : Nat} {Q : Option Int32 → Mem → Prop} (M : Mem) (x1 : Int32) (h : AX10_lives d Q 0 [lR 77, lI x1] [] M) : AM d iX10_lives [.ref 77, .int x1] M Q := AM.of2 (by decide) rfl rfl h
theorem bX10_lives_0 {d : Nat} {Q : Option Int32 → Mem → Prop} (M : Mem) (x1 : Int32) (h : ((isPV (M 77 0) x1) = 0 → Q (some 0) M) ∧ (¬ (isPV (M 77 0) x1) = 0 → ((hasV (M 77 1) x1) = 0 → Q (some 0) M) ∧ (¬ (hasV (M 77 1) x1) = 0 → Q (some 1) M))) : AX10_lives (d + 1) Q 0 [lR 77, lI x1] [] M := by
  refine aw_aload_n dX10_lives_0 rfl rfl ?_
  refine aw_iload_n dX10_lives_1 rfl rfl ?_
  refine aw_callV (mi := iX10_isPerson) (av := [.int x1]) (st := []) dX10_lives_2 ml_X10_141 kX10_isPerson (by decide) ce_77 clX10 rfl rfl rfl (by decide) (AM.mono (p_X10_isPerson _) (fun r9 M9 e9 => ?_))
  obtain ⟨rfl, rfl⟩ := e9
  refine aw_if_eq (tgt := 23) dX10_lives_5 (by decide) (fun z => ?_) (fun z => ?_)
  · replace h := h.1 z
    refine aw_iconst (v := 0) dX10_lives_23 (by decide) ?_
    exact aw_iret dX10_lives_24 rfl (nar_b (by decide)) h
  · replace h := h.2 z
    refine aw_aload_n dX10_lives_8 rfl rfl ?_
    refine aw_getf dX10_lives_9 fl_X10_145 (by decide) ce_77 rfl (v := .int (M 77 1)) rfl ?_
    refine aw_iload_n dX10_lives_12 rfl rfl ?_
    refine aw_callS (mi := iX10_has) (av := [.int (M 77 1), .int x1]) (st := []) dX10_lives_13 ml_X10_148 kX10_has rfl rfl (by decide) (AM.mono (p_X10_has _ _) (fun r9 M9 e9 => ?_))
    obtain ⟨rfl, rfl⟩ := e9
    refine aw_if_eq (tgt := 23) dX10_lives_16 (by decide) (fun z => ?_) (fun z => ?_)
    · replace h := h.1 z
      refine aw_iconst (v := 0) dX10_lives_23 (by decide) ?_
      exact aw_iret dX10_lives_24 rfl (nar_b (by decide)) h
    · replace h := h.2 z
      refine aw_iconst (v := 1) dX10_lives_19 (by decide) ?_
      refine aw_goto (tgt := 24) dX10_lives_20 (by decide) ?_
      exact aw_iret dX10_lives_24 rfl (nar_b (by decide)) h
abbrev AX8_lives (d : Nat) (Q : Option Int32 → Mem → Prop) (pc : Nat) (L : List (Option Value)) (st : List Value) (M : Mem) : Prop := AW none RX8 cX8_lives 2 (some .boolean) d Q pc L st M
theorem eX8_lives {d : Nat} {Q : Option Int32 → Mem → Prop} {v : Nat} (M : Mem) (x1 : Int32) (h : AX8_lives d Q 0 [lR v, lI x1] [] M) : AM d iX8_lives [.ref v, .int x1] M Q := AM.of2 (by decide) rfl rfl h
theorem bX8_lives_0 {d : Nat} {Q : Option Int32 → Mem → Prop} {v : Nat} (h_v : isV v) (M : Mem) (x1 : Int32) (h : ((isPV (M v 7) x1) = 0 → Q (some 0) M) ∧ (¬ (isPV (M v 7) x1) = 0 → ((hasV (M v 8) x1) = 0 → Q (some 0) M) ∧ (¬ (hasV (M v 8) x1) = 0 → Q (some 1) M))) : AX8_lives (d + 1) Q 0 [lR v, lI x1] [] M := by
  refine aw_aload_n dX8_lives_0 rfl rfl ?_
  refine aw_iload_n dX8_lives_1 rfl rfl ?_
  refine aw_callV (mi := iX8_isPerson) (av := [.int x1]) (st := []) dX8_lives_2 ml_X8_65 kX8_isPerson (kV0 h_v) (cV0 h_v) clX8 rfl rfl rfl (by decide) (AM.mono (p_X8_isPerson _ h_v) (fun r9 M9 e9 => ?_))
  obtain ⟨rfl, rfl⟩ := e9
  refine aw_if_eq (tgt := 23) dX8_lives_5 (by decide) (fun z => ?_) (fun z => ?_)
  · replace h := h.1 z
    refine aw_iconst (v := 0) dX8_lives_23 (by decide) ?_
    exact aw_iret dX8_lives_24 rfl (nar_b (by decide)) h
  · replace h := h.2 z
    refine aw_aload_n dX8_lives_8 rfl rfl ?_
    refine aw_getf dX8_lives_9 fl_X8_56 (kV0 h_v) (cV0 h_v) rfl (v := .int (M v 8)) rfl ?_
    refine aw_iload_n dX8_lives_12 rfl rfl ?_
    refine aw_callN (mi := iX9_has) (av := [.int (M v 8), .int x1]) (st := []) dX8_lives_13 (host := "TallerWitness") (by decide) kX9_has rfl rfl (by decide) (AM.mono (p_X9_has _ _) (fun r9 M9 e9 => ?_))
    obtain ⟨rfl, rfl⟩ := e9
    refine aw_if_eq (tgt := 23) dX8_lives_16 (by decide) (fun z => ?_) (fun z => ?_)
    · replace h := h.1 z
      refine aw_iconst (v := 0) dX8_lives_23 (by decide) ?_
      exact aw_iret dX8_lives_24 rfl (nar_b (by decide)) h
    · replace h := h.2 z
      refine aw_iconst (v := 1) dX8_lives_19 (by decide) ?_
      refine aw_goto (tgt := 24) dX8_lives_20 (by decide) ?_
      exact aw_iret dX8_lives_24 rfl (nar_b (by decide)) h
