abbrev AJ0_coder_7d493 (d : Nat) (Q : Option Int32 → Mem → Prop) (pc : Nat) (L : List (Option Value)) (st : List Value) (M : Mem) : Prop := AW none RJ0 cJ0_coder_7d493 1 (some .byte) d Q pc L st M
theorem eJ0_coder_7d493 {d : Nat} {Q : Option Int32 → Mem → Prop} {i : Nat} (M : Mem) (h : AJ0_coder_7d493 d Q 0 [lR (1000 + i)] [] M) : AM d iJ0_coder_7d493 [.ref (1000 + i)] M Q := AM.of2 (by decide) rfl rfl h
theorem bJ0_coder_7d493_0 {d : Nat} {Q : Option Int32 → Mem → Prop} {i : Nat} (hi : i < strT.length) (M : Mem) (h : ((1 : Int32) = 0 → Q (some 1) M) ∧ (¬ (1 : Int32) = 0 → Q (some 0) M)) : AJ0_coder_7d493 d Q 0 [lR (1000 + i)] [] M := by
  refine aw_sgets dJ0_coder_7d493_0 ?_
  refine aw_if_eq (tgt := 13) dJ0_coder_7d493_3 (by decide) (fun z => ?_) (fun z => ?_)
  · replace h := h.1 z
    refine aw_iconst (v := 1) dJ0_coder_7d493_13 (by decide) ?_
    exact aw_iret dJ0_coder_7d493_14 rfl rfl h
  · replace h := h.2 z
    refine aw_aload_n dJ0_coder_7d493_6 rfl rfl ?_
    refine aw_sgetc (i := i) hi dJ0_coder_7d493_7 ?_
    refine aw_goto (tgt := 14) dJ0_coder_7d493_10 (by decide) ?_
    exact aw_iret dJ0_coder_7d493_14 rfl rfl h
abbrev AJ0_isLatin1_aae02 (d : Nat) (Q : Option Int32 → Mem → Prop) (pc : Nat) (L : List (Option Value)) (st : List Value) (M : Mem) : Prop := AW none RJ0 cJ0_isLatin1_aae02 1 (some .boolean) d Q pc L st M
theorem eJ0_isLatin1_aae02 {d : Nat} {Q : Option Int32 → Mem → Prop} {i : Nat} (M : Mem) (h : AJ0_isLatin1_aae02 d Q 0 [lR (1000 + i)] [] M) : AM d iJ0_isLatin1_aae02 [.ref (1000 + i)] M Q := AM.of2 (by decide) rfl rfl h
theorem bJ0_isLatin1_aae02_0 {d : Nat} {Q : Option Int32 → Mem → Prop} {i : Nat} (hi : i < strT.length) (M : Mem) (h : ((1 : Int32) = 0 → Q (some 0) M) ∧ (¬ (1 : Int32) = 0 → (¬ (0 : Int32) = 0 → Q (some 0) M) ∧ ((0 : Int32) = 0 → Q (some 1) M))) : AJ0_isLatin1_aae02 d Q 0 [lR (1000 + i)] [] M := by
  refine aw_sgets dJ0_isLatin1_aae02_0 ?_
  refine aw_if_eq (tgt := 17) dJ0_isLatin1_aae02_3 (by decide) (fun z => ?_) (fun z => ?_)
  · replace h := h.1 z
    refine aw_iconst (v := 0) dJ0_isLatin1_aae02_17 (by decide) ?_
    exact aw_iret dJ0_isLatin1_aae02_18 rfl (nar_b (by decide)) h
  · replace h := h.2 z
    refine aw_aload_n dJ0_isLatin1_aae02_6 rfl rfl ?_
    refine aw_sgetc (i := i) hi dJ0_isLatin1_aae02_7 ?_
    refine aw_if_ne (tgt := 17) dJ0_isLatin1_aae02_10 (by decide) (fun z => ?_) (fun z => ?_)
    · replace h := h.1 z
      refine aw_iconst (v := 0) dJ0_isLatin1_aae02_17 (by decide) ?_
      exact aw_iret dJ0_isLatin1_aae02_18 rfl (nar_b (by decide)) h
    · replace h := h.2 z
      refine aw_iconst (v := 1) dJ0_isLatin1_aae02_13 (by decide) ?_
      refine aw_goto (tgt := 18) dJ0_isLatin1_aae02_14 (by decide) ?_
      exact aw_iret dJ0_isLatin1_aae02_18 rfl (nar_b (by decide)) h
abbrev AJ1_canEncode_9a6ad (d : Nat) (Q : Option Int32 → Mem → Prop) (pc : Nat) (L : List (Option Value)) (st : List Value) (M : Mem) : Prop := AW none RJ1 cJ1_canEncode_9a6ad 1 (some .boolean) d Q pc L st M
theorem eJ1_canEncode_9a6ad {d : Nat} {Q : Option Int32 → Mem → Prop} (M : Mem) (x0 : Int32) (h : AJ1_canEncode_9a6ad d Q 0 [lI x0] [] M) : AM d iJ1_canEncode_9a6ad [.int x0] M Q := AM.of2 (by decide) rfl rfl h
theorem bJ1_canEncode_9a6ad_0 {d : Nat} {Q : Option Int32 → Mem → Prop} (M : Mem) (x0 : Int32) (h : (x0 < 0 → Q (some 0) M) ∧ (¬ x0 < 0 → (255 < x0 → Q (some 0) M) ∧ (¬ 255 < x0 → Q (some 1) M))) : AJ1_canEncode_9a6ad d Q 0 [lI x0] [] M := by
  refine aw_iload_n dJ1_canEncode_9a6ad_0 rfl rfl ?_
  refine aw_if_lt (tgt := 15) dJ1_canEncode_9a6ad_1 (by decide) (fun z => ?_) (fun z => ?_)
  · replace h := h.1 z
    refine aw_iconst (v := 0) dJ1_canEncode_9a6ad_15 (by decide) ?_
    exact aw_iret dJ1_canEncode_9a6ad_16 rfl (nar_b (by decide)) h
  · replace h := h.2 z
    refine aw_iload_n dJ1_canEncode_9a6ad_4 rfl rfl ?_
    refine aw_sipush (v := 255) dJ1_canEncode_9a6ad_5 (by decide) ?_
    refine aw_icmp_gt (tgt := 15) dJ1_canEncode_9a6ad_8 (by decide) (fun z => ?_) (fun z => ?_)
    · replace h := h.1 z
      refine aw_iconst (v := 0) dJ1_canEncode_9a6ad_15 (by decide) ?_
      exact aw_iret dJ1_canEncode_9a6ad_16 rfl (nar_b (by decide)) h
    · replace h := h.2 z
      refine aw_iconst (v := 1) dJ1_canEncode_9a6ad_11 (by decide) ?_
      refine aw_goto (tgt := 16) dJ1_canEncode_9a6ad_12 (by decide) ?_
      exact aw_iret dJ1_canEncode_9a6ad_16 rfl (nar_b (by decide)) h
abbrev AJ0_length_8abf5 (d : Nat) (Q : Option Int32 → Mem → Prop) (pc : Nat) (L : List (Option Value)) (st : List Value) (M : Mem) : Prop := AW none RJ0 cJ0_length_8abf5 1 (some .int) d Q pc L st M
theorem eJ0_length_8abf5 {d : Nat} {Q : Option Int32 → Mem → Prop} {i : Nat} (M : Mem) (h : AJ0_length_8abf5 d Q 0 [lR (1000 + i)] [] M) : AM d iJ0_length_8abf5 [.ref (1000 + i)] M Q := AM.of2 (by decide) rfl rfl h
theorem bJ0_length_8abf5_0 {d : Nat} {Q : Option Int32 → Mem → Prop} {i : Nat} (hi : i < strT.length) (M : Mem) (h : AMi d iJ0_coder_7d493 [.ref (1000 + i)] M (fun r1 M1 => Q (some ((nI (strB i).length) >>> (r1 &&& 31))) M1)) : AJ0_length_8abf5 (d + 1) Q 0 [lR (1000 + i)] [] M := by
  refine aw_aload_n dJ0_length_8abf5_0 rfl rfl ?_
  refine aw_sgetv (i := i) hi dJ0_length_8abf5_1 ?_
  refine aw_slenB (i := i) hi dJ0_length_8abf5_4 ?_
  refine aw_aload_n dJ0_length_8abf5_5 rfl rfl ?_
  refine aw_callT (i := i) hi (mi := iJ0_coder_7d493) (av := []) (st := [.int (nI (strB i).length)]) dJ0_length_8abf5_6 ml_J0_335 kJ0_coder_7d493 rfl rfl rfl (Nat.le_of_ble_eq_true rfl) (AM.mono h (fun r9 M1 h => ?_))
  obtain ⟨r1, rfl, h⟩ := h
  refine aw_ishr dJ0_length_8abf5_9 ?_
  exact aw_iret dJ0_length_8abf5_10 rfl rfl h
abbrev AJ1_indexOfChar_4cfef (d : Nat) (Q : Option Int32 → Mem → Prop) (pc : Nat) (L : List (Option Value)) (st : List Value) (M : Mem) : Prop := AW none RJ1 cJ1_indexOfChar_4cfef 6 (some .int) d Q pc L st M
theorem eJ1_indexOfChar_4cfef {d : Nat} {Q : Option Int32 → Mem → Prop} {i : Nat} (M : Mem) (x1 x2 x3 : Int32) (h : AJ1_indexOfChar_4cfef d Q 0 [lR (2000 + i), lI x1, lI x2, lI x3, none, none] [] M) : AM d iJ1_indexOfChar_4cfef [.ref (2000 + i), .int x1, .int x2, .int x3] M Q := AM.of2 (by decide) rfl rfl h
theorem bJ1_indexOfChar_4cfef_0 {d : Nat} {Q : Option Int32 → Mem → Prop} {i : Nat} (hi : i < strT.length) (M : Mem) (x1 x2 x3 : Int32) (h : AJ1_indexOfChar_4cfef d Q 7 [lR (2000 + i), none, none, lI x3, lI (Int8.toInt32 (Int32.toInt8 x1)), lI x2] [] M) : AJ1_indexOfChar_4cfef d Q 0 [lR (2000 + i), lI x1, lI x2, lI x3, none, none] [] M := by
  refine aw_iload_n dJ1_indexOfChar_4cfef_0 rfl rfl ?_
  refine aw_i2b dJ1_indexOfChar_4cfef_1 ?_
  refine aw_istore (L2 := [lR (2000 + i), lI x1, lI x2, lI x3, lI (Int8.toInt32 (Int32.toInt8 x1)), none]) dJ1_indexOfChar_4cfef_2 (by decide) rfl ?_
  refine aw_iload_n dJ1_indexOfChar_4cfef_4 rfl rfl ?_
  refine aw_istore (L2 := [lR (2000 + i), lI x1, lI x2, lI x3, lI (Int8.toInt32 (Int32.toInt8 x1)), lI x2]) dJ1_indexOfChar_4cfef_5 (by decide) rfl ?_
  exact aw_less (less_k (less_d (less_d (less_k (less_k (less_k less_nil)))))) h
theorem bJ1_indexOfChar_4cfef_7 {d : Nat} {Q : Option Int32 → Mem → Prop} {i : Nat} (hi : i < strT.length) (M : Mem) (x3 x4 x5 : Int32) (h : (x3 ≤ x5 → Q (some (-1)) M) ∧ (¬ x3 ≤ x5 → (vp_in x5 (strB i).length) ∧ ((¬ ((strB i).getD (ix x5) 0) = x4 → AJ1_indexOfChar_4cfef d Q 7 [lR (2000 + i), none, none, lI x3, lI x4, lI (x5 + 1)] [] M) ∧ (((strB i).getD (ix x5) 0) = x4 → Q (some x5) M)))) : AJ1_indexOfChar_4cfef d Q 7 [lR (2000 + i), none, none, lI x3, lI x4, lI x5] [] M := by
  refine aw_iload dJ1_indexOfChar_4cfef_7 rfl ?_
  refine aw_iload_n dJ1_indexOfChar_4cfef_9 rfl rfl ?_
  refine aw_icmp_ge (tgt := 31) dJ1_indexOfChar_4cfef_10 (by decide) (fun z => ?_) (fun z => ?_)
  · replace h := h.1 z
    refine aw_iconst (v := (-1)) dJ1_indexOfChar_4cfef_31 (by decide) ?_
    exact aw_iret dJ1_indexOfChar_4cfef_32 rfl rfl h
  · replace h := h.2 z
    refine aw_aload_n dJ1_indexOfChar_4cfef_13 rfl rfl ?_
    refine aw_iload dJ1_indexOfChar_4cfef_14 rfl ?_
    obtain ⟨h9, h⟩ := h
    refine aw_sbald (i := i) hi dJ1_indexOfChar_4cfef_16 h9 ?_
    refine aw_iload dJ1_indexOfChar_4cfef_17 rfl ?_
    refine aw_icmp_ne (tgt := 25) dJ1_indexOfChar_4cfef_19 (by decide) (fun z => ?_) (fun z => ?_)
    · replace h := h.1 z
      refine aw_iinc (y := 1) (L2 := [lR (2000 + i), none, none, lI x3, lI x4, lI (x5 + 1)]) dJ1_indexOfChar_4cfef_25 rfl (by decide) (by decide) rfl ?_
      refine aw_goto (tgt := 7) dJ1_indexOfChar_4cfef_28 (by decide) ?_
      exact h
    · replace h := h.2 z
      refine aw_iload dJ1_indexOfChar_4cfef_22 rfl ?_
      exact aw_iret dJ1_indexOfChar_4cfef_24 rfl rfl h
abbrev AJ1_indexOf_4cfef (d : Nat) (Q : Option Int32 → Mem → Prop) (pc : Nat) (L : List (Option Value)) (st : List Value) (M : Mem) : Prop := AW none RJ1 cJ1_indexOf_4cfef 4 (some .int) d Q pc L st M
theorem eJ1_indexOf_4cfef {d : Nat} {Q : Option Int32 → Mem → Prop} {i : Nat} (M : Mem) (x1 x2 x3 : Int32) (h : AJ1_indexOf_4cfef d Q 0 [lR (2000 + i), lI x1, lI x2, lI x3] [] M) : AM d iJ1_indexOf_4cfef [.ref (2000 + i), .int x1, .int x2, .int x3] M Q := AM.of2 (by decide) rfl rfl h
theorem bJ1_indexOf_4cfef_0 {d : Nat} {Q : Option Int32 → Mem → Prop} {i : Nat} (hi : i < strT.length) (M : Mem) (x1 x2 x3 : Int32) (h : AMi d iJ1_canEncode_9a6ad [.int x1] M (fun r1 M1 => (¬ r1 = 0 → ((if x2 < 0 then 0 else x2) < (if (nI (strB i).length) < x3 then (nI (strB i).length) else x3) → AMi d iJ1_indexOfChar_4cfef [.ref (2000 + i), .int x1, .int (if x2 < 0 then 0 else x2), .int (if (nI (strB i).length) < x3 then (nI (strB i).length) else x3)] M1 (fun r2 M2 => Q (some r2) M2)) ∧ (¬ (if x2 < 0 then 0 else x2) < (if (nI (strB i).length) < x3 then (nI (strB i).length) else x3) → Q (some (-1)) M1)) ∧ (r1 = 0 → Q (some (-1)) M1))) : AJ1_indexOf_4cfef (d + 1) Q 0 [lR (2000 + i), lI x1, lI x2, lI x3] [] M := by
  refine aw_iload_n dJ1_indexOf_4cfef_0 rfl rfl ?_
  refine aw_callS (mi := iJ1_canEncode_9a6ad) (av := [.int x1]) (st := []) dJ1_indexOf_4cfef_1 ml_J1_88 kJ1_canEncode_9a6ad rfl rfl (Nat.le_of_ble_eq_true rfl) (AM.mono h (fun r9 M1 h => ?_))
  obtain ⟨r1, rfl, h⟩ := h
  refine aw_if_ne (tgt := 9) dJ1_indexOf_4cfef_4 (by decide) (fun z => ?_) (fun z => ?_)
  · replace h := h.1 z
    refine aw_iload_n dJ1_indexOf_4cfef_9 rfl rfl ?_
    refine aw_iconst (v := 0) dJ1_indexOf_4cfef_10 (by decide) ?_
    refine aw_mmax dJ1_indexOf_4cfef_11 ml_J1_92 mm_max_s mm_i mm_max_c (Nat.le_of_ble_eq_true rfl) (fun z9 e9 => ?_)
    subst e9
    refine aw_istore_n (L2 := [lR (2000 + i), lI x1, lI (if x2 < 0 then 0 else x2), lI x3]) dJ1_indexOf_4cfef_14 rfl (by decide) rfl ?_
    refine aw_iload_n dJ1_indexOf_4cfef_15 rfl rfl ?_
    refine aw_aload_n dJ1_indexOf_4cfef_16 rfl rfl ?_
    refine aw_slenB (i := i) hi dJ1_indexOf_4cfef_17 ?_
    refine aw_mmin dJ1_indexOf_4cfef_18 ml_J1_38 mm_min_s mm_i mm_min_c (Nat.le_of_ble_eq_true rfl) ?_
    refine aw_istore_n (L2 := [lR (2000 + i), lI x1, lI (if x2 < 0 then 0 else x2), lI (if (nI (strB i).length) < x3 then (nI (strB i).length) else x3)]) dJ1_indexOf_4cfef_21 rfl (by decide) rfl ?_
    refine aw_iload_n dJ1_indexOf_4cfef_22 rfl rfl ?_
    refine aw_iload_n dJ1_indexOf_4cfef_23 rfl rfl ?_
    refine aw_icmp_lt (tgt := 29) dJ1_indexOf_4cfef_24 (by decide) (fun z => ?_) (fun z => ?_)
    · replace h := h.1 z
      refine aw_aload_n dJ1_indexOf_4cfef_29 rfl rfl ?_
      refine aw_iload_n dJ1_indexOf_4cfef_30 rfl rfl ?_
      refine aw_iload_n dJ1_indexOf_4cfef_31 rfl rfl ?_
      refine aw_iload_n dJ1_indexOf_4cfef_32 rfl rfl ?_
      refine aw_callS (mi := iJ1_indexOfChar_4cfef) (av := [.ref (2000 + i), .int x1, .int (if x2 < 0 then 0 else x2), .int (if (nI (strB i).length) < x3 then (nI (strB i).length) else x3)]) (st := []) dJ1_indexOf_4cfef_33 ml_J1_95 kJ1_indexOfChar_4cfef rfl rfl (Nat.le_of_ble_eq_true rfl) (AM.mono h (fun r9 M2 h => ?_))
      obtain ⟨r2, rfl, h⟩ := h
      exact aw_iret dJ1_indexOf_4cfef_36 rfl rfl h
    · replace h := h.2 z
      refine aw_iconst (v := (-1)) dJ1_indexOf_4cfef_27 (by decide) ?_
      exact aw_iret dJ1_indexOf_4cfef_28 rfl rfl h
  · replace h := h.2 z
    refine aw_iconst (v := (-1)) dJ1_indexOf_4cfef_7 (by decide) ?_
    exact aw_iret dJ1_indexOf_4cfef_8 rfl rfl h
abbrev AJ0_indexOf_7cf53 (d : Nat) (Q : Option Int32 → Mem → Prop) (pc : Nat) (L : List (Option Value)) (st : List Value) (M : Mem) : Prop := AW none RJ0 cJ0_indexOf_7cf53 3 (some .int) d Q pc L st M
theorem eJ0_indexOf_7cf53 {d : Nat} {Q : Option Int32 → Mem → Prop} {i : Nat} (M : Mem) (x1 x2 : Int32) (h : AJ0_indexOf_7cf53 d Q 0 [lR (1000 + i), lI x1, lI x2] [] M) : AM d iJ0_indexOf_7cf53 [.ref (1000 + i), .int x1, .int x2] M Q := AM.of2 (by decide) rfl rfl h
theorem bJ0_indexOf_7cf53_0 {d : Nat} {Q : Option Int32 → Mem → Prop} {i : Nat} (hi : i < strT.length) (M : Mem) (x1 x2 : Int32) (h : AMi d iJ0_isLatin1_aae02 [.ref (1000 + i)] M (fun r1 M1 => (r1 = 0 → AMi d iJ0_length_8abf5 [.ref (1000 + i)] M1 (fun r2 M2 => AMi d iJ2_indexOf_4cfef [.ref (2000 + i), .int x1, .int x2, .int r2] M2 (fun r3 M3 => Q (some r3) M3))) ∧ (¬ r1 = 0 → AMi d iJ0_length_8abf5 [.ref (1000 + i)] M1 (fun r4 M4 => AMi d iJ1_indexOf_4cfef [.ref (2000 + i), .int x1, .int x2, .int r4] M4 (fun r5 M5 => Q (some r5) M5))))) : AJ0_indexOf_7cf53 (d + 1) Q 0 [lR (1000 + i), lI x1, lI x2] [] M := by
  refine aw_aload_n dJ0_indexOf_7cf53_0 rfl rfl ?_
  refine aw_callT (i := i) hi (mi := iJ0_isLatin1_aae02) (av := []) (st := []) dJ0_indexOf_7cf53_1 ml_J0_492 kJ0_isLatin1_aae02 rfl rfl rfl (Nat.le_of_ble_eq_true rfl) (AM.mono h (fun r9 M1 h => ?_))
  obtain ⟨r1, rfl, h⟩ := h
  refine aw_if_eq (tgt := 23) dJ0_indexOf_7cf53_4 (by decide) (fun z => ?_) (fun z => ?_)
  · replace h := h.1 z
    refine aw_aload_n dJ0_indexOf_7cf53_23 rfl rfl ?_
    refine aw_sgetv (i := i) hi dJ0_indexOf_7cf53_24 ?_
    refine aw_iload_n dJ0_indexOf_7cf53_27 rfl rfl ?_
    refine aw_iload_n dJ0_indexOf_7cf53_28 rfl rfl ?_
    refine aw_aload_n dJ0_indexOf_7cf53_29 rfl rfl ?_
    refine aw_callT (i := i) hi (mi := iJ0_length_8abf5) (av := []) (st := [.int x2, .int x1, .ref (2000 + i)]) dJ0_indexOf_7cf53_30 ml_J0_505 kJ0_length_8abf5 rfl rfl rfl (Nat.le_of_ble_eq_true rfl) (AM.mono h (fun r9 M2 h => ?_))
    obtain ⟨r2, rfl, h⟩ := h
    refine aw_callS (mi := iJ2_indexOf_4cfef) (av := [.ref (2000 + i), .int x1, .int x2, .int r2]) (st := []) dJ0_indexOf_7cf53_33 ml_J0_640 kJ2_indexOf_4cfef rfl rfl (Nat.le_of_ble_eq_true rfl) (AM.mono h (fun r9 M3 h => ?_))
    obtain ⟨r3, rfl, h⟩ := h
    exact aw_iret dJ0_indexOf_7cf53_36 rfl rfl h
  · replace h := h.2 z
    refine aw_aload_n dJ0_indexOf_7cf53_7 rfl rfl ?_
    refine aw_sgetv (i := i) hi dJ0_indexOf_7cf53_8 ?_
    refine aw_iload_n dJ0_indexOf_7cf53_11 rfl rfl ?_
    refine aw_iload_n dJ0_indexOf_7cf53_12 rfl rfl ?_
    refine aw_aload_n dJ0_indexOf_7cf53_13 rfl rfl ?_
    refine aw_callT (i := i) hi (mi := iJ0_length_8abf5) (av := []) (st := [.int x2, .int x1, .ref (2000 + i)]) dJ0_indexOf_7cf53_14 ml_J0_505 kJ0_length_8abf5 rfl rfl rfl (Nat.le_of_ble_eq_true rfl) (AM.mono h (fun r9 M4 h => ?_))
    obtain ⟨r4, rfl, h⟩ := h
    refine aw_callS (mi := iJ1_indexOf_4cfef) (av := [.ref (2000 + i), .int x1, .int x2, .int r4]) (st := []) dJ0_indexOf_7cf53_17 ml_J0_637 kJ1_indexOf_4cfef rfl rfl (Nat.le_of_ble_eq_true rfl) (AM.mono h (fun r9 M5 h => ?_))
    obtain ⟨r5, rfl, h⟩ := h
    refine aw_goto (tgt := 36) dJ0_indexOf_7cf53_20 (by decide) ?_
    exact aw_iret dJ0_indexOf_7cf53_36 rfl rfl h
abbrev AJ0_indexOf_0f7a4 (d : Nat) (Q : Option Int32 → Mem → Prop) (pc : Nat) (L : List (Option Value)) (st : List Value) (M : Mem) : Prop := AW none RJ0 cJ0_indexOf_0f7a4 2 (some .int) d Q pc L st M
theorem eJ0_indexOf_0f7a4 {d : Nat} {Q : Option Int32 → Mem → Prop} {i : Nat} (M : Mem) (x1 : Int32) (h : AJ0_indexOf_0f7a4 d Q 0 [lR (1000 + i), lI x1] [] M) : AM d iJ0_indexOf_0f7a4 [.ref (1000 + i), .int x1] M Q := AM.of2 (by decide) rfl rfl h
theorem bJ0_indexOf_0f7a4_0 {d : Nat} {Q : Option Int32 → Mem → Prop} {i : Nat} (hi : i < strT.length) (M : Mem) (x1 : Int32) (h : AMi d iJ0_indexOf_7cf53 [.ref (1000 + i), .int x1, .int 0] M (fun r1 M1 => Q (some r1) M1)) : AJ0_indexOf_0f7a4 (d + 1) Q 0 [lR (1000 + i), lI x1] [] M := by
  refine aw_aload_n dJ0_indexOf_0f7a4_0 rfl rfl ?_
  refine aw_iload_n dJ0_indexOf_0f7a4_1 rfl rfl ?_
  refine aw_iconst (v := 0) dJ0_indexOf_0f7a4_2 (by decide) ?_
  refine aw_callT (i := i) hi (mi := iJ0_indexOf_7cf53) (av := [.int x1, .int 0]) (st := []) dJ0_indexOf_0f7a4_3 ml_J0_633 kJ0_indexOf_7cf53 rfl rfl rfl (Nat.le_of_ble_eq_true rfl) (AM.mono h (fun r9 M1 h => ?_))
  obtain ⟨r1, rfl, h⟩ := h
  exact aw_iret dJ0_indexOf_0f7a4_6 rfl rfl h
