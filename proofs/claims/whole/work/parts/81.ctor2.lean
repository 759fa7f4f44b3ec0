/-! the constructor of the class -/
theorem cw_st {own : String} {cc : ByteArray} {nL d C1 S1 : Nat} {cs1 : List PCl} {C S pc : Nat} {L : List (Option Value)} {st st' : List Value} {cs : List PCl} (h : st = st') (k : CW own cc nL d C1 S1 cs1 C S pc L st' cs) : CW own cc nL d C1 S1 cs1 C S pc L st cs := by rw [h]; exact k
def nw0 : List PCl := []
def nw1 : List PCl := nw0 ++ valC 1
def nw2 : List PCl := nw1 ++ valC 12
def nw3 : List PCl := nw2 ++ valC 23
def nw4 : List PCl := nw3 ++ tapC 34
def nw5 : List PCl := nw4 ++ [.inr (.inr [none, none])]
def nw6 : List PCl := nw4 ++ (.inr (.inr [some 37, none]) :: []) ++ lwC 37
def nw7 : List PCl := nw4 ++ (.inr (.inr [some 37, some 45]) :: lwC 37) ++ lwC 45
def nw8 : List PCl := nw7 ++ lwC 53
def nw9 : List PCl := nw8 ++ rdC 61 34 53
def nw10 : List PCl := nw9 ++ stC 62 1 37
def nw11 : List PCl := nw10 ++ chC 69 62
def nw12 : List PCl := nw11 ++ sfC 73 62
def nw13 : List PCl := nw12 ++ ctC 74 62
def nw14 : List PCl := nw13 ++ [.inr (.inl (false, 12))]
theorem nwl0 : nw0.length = 0 := rfl
theorem nwl1 : nw1.length = 11 := by decide +kernel
theorem nwl2 : nw2.length = 22 := by decide +kernel
theorem nwl3 : nw3.length = 33 := by decide +kernel
theorem nwl4 : nw4.length = 35 := by decide +kernel
theorem nwl5 : nw5.length = 36 := by decide +kernel
theorem nwl6 : nw6.length = 44 := by decide +kernel
theorem nwl7 : nw7.length = 52 := by decide +kernel
theorem nwl8 : nw8.length = 60 := by decide +kernel
theorem nwl9 : nw9.length = 61 := by decide +kernel
theorem nwl10 : nw10.length = 68 := by decide +kernel
theorem nwl11 : nw11.length = 72 := by decide +kernel
theorem nwl12 : nw12.length = 73 := by decide +kernel
theorem nwl13 : nw13.length = 75 := by decide +kernel
theorem nwl14 : nw14.length = 76 := by decide +kernel
def twC : List PCl := (.inl (9, [.ref 1, .ref 12, .ref 23, .ref 34, .ref 36, .ref 53, .ref 61, .ref 62, .ref 69, .ref 73, .ref 74, .ref 76, .int 0, .int 0]) : PCl) :: nw14
theorem tw_s0 {d : Nat} {new : List PCl} (hlen : new.length = 0) (k : CW RX9 cX9_init 2 (d + 4) 76 2278 twC 0 0 4 [some (.ref 0), none] [] ((.inl (9, [.null, .null, .null, .null, .null, .null, .null, .null, .null, .null, .null, .null, .int 0, .int 0]) : PCl) :: (new))) : CW RX9 cX9_init 2 (d + 4) 76 2278 twC 0 0 0 [some (.ref 0), none] [] ((.inl (9, [.null, .null, .null, .null, .null, .null, .null, .null, .null, .null, .null, .null, .int 0, .int 0]) : PCl) :: new) := by
  refine cw_aload_n dX9_init_0 rfl rfl ?_
  refine cw_objInit dX9_init_1 oi_X9 oi_i oi_c (by omega) (by decide) ?_
  exact k
theorem tw_s1 {d : Nat} {new : List PCl} (hlen : new.length = 0) (k : CW RX9 cX9_init 2 (d + 4) 76 2278 twC 11 147 15 [some (.ref 0), none] [] ((.inl (9, [.ref 1, .null, .null, .null, .null, .null, .null, .null, .null, .null, .null, .null, .int 0, .int 0]) : PCl) :: (new ++ valC 1))) : CW RX9 cX9_init 2 (d + 4) 76 2278 twC 0 0 4 [some (.ref 0), none] [] ((.inl (9, [.null, .null, .null, .null, .null, .null, .null, .null, .null, .null, .null, .null, .int 0, .int 0]) : PCl) :: new) := by
  refine cw_aload_n dX9_init_4 rfl rfl ?_
  have hl : (((.inl (9, [.null, .null, .null, .null, .null, .null, .null, .null, .null, .null, .null, .null, .int 0, .int 0]) : PCl) :: new)).length = 1 := by rw [List.length_cons, hlen]
  refine cw_new (cs := ((.inl (9, [.null, .null, .null, .null, .null, .null, .null, .null, .null, .null, .null, .null, .int 0, .int 0]) : PCl) :: new)) dX9_init_5 clX8 kl_X9_9 ki_X8 kI_X8.1.1 (fs := [.null, .null, .null, .null, .null, .null, .null, .int 0, .int 0, .int 0, .int 0, .int 0, .null, .null]) (by decide +kernel) rfl (Nat.le_of_ble_eq_true rfl) (Nat.le_of_ble_eq_true rfl) ?_
  refine cw_st (st' := [.ref 1, .ref 0]) (by rw [hl]) ?_
  refine cw_dup dX9_init_8 rfl ?_
  have hc := m_valley (d := d) ((.inl (9, [.null, .null, .null, .null, .null, .null, .null, .null, .null, .null, .null, .null, .int 0, .int 0]) : PCl) :: new)
  rw [hl] at hc
  refine cw_callIN (mi := iX8_init) (k0 := 1) (av := []) (st := [.ref 1, .ref 0]) dX9_init_9 (by decide +kernel) kI_X8 rfl rfl rfl rfl (Nat.le_of_ble_eq_true rfl) (Nat.le_of_ble_eq_true rfl) (Nat.le_of_ble_eq_true rfl) hc ?_
  refine cw_eq (cs' := (.inl (9, [.null, .null, .null, .null, .null, .null, .null, .null, .null, .null, .null, .null, .int 0, .int 0]) : PCl) :: (new ++ valC 1)) rfl ?_
  refine cw_putF (t := .object "TallerWitness$Valley") (q := (RX9, TX9, 14)) dX9_init_12 fl_X9_12 rfl rfl rfl (by decide +kernel) rfl (Nat.le_of_ble_eq_true rfl) (fun _ => rfl) (fun _ => rfl) ?_
  refine cw_eq (cs' := (.inl (9, [.ref 1, .null, .null, .null, .null, .null, .null, .null, .null, .null, .null, .null, .int 0, .int 0]) : PCl) :: (new ++ valC 1)) rfl ?_
  exact k
theorem tw_s2 {d : Nat} {new : List PCl} (hlen : new.length = 11) (k : CW RX9 cX9_init 2 (d + 4) 76 2278 twC 22 294 26 [some (.ref 0), none] [] ((.inl (9, [.ref 1, .ref 12, .null, .null, .null, .null, .null, .null, .null, .null, .null, .null, .int 0, .int 0]) : PCl) :: (new ++ valC 12))) : CW RX9 cX9_init 2 (d + 4) 76 2278 twC 11 147 15 [some (.ref 0), none] [] ((.inl (9, [.ref 1, .null, .null, .null, .null, .null, .null, .null, .null, .null, .null, .null, .int 0, .int 0]) : PCl) :: new) := by
  refine cw_aload_n dX9_init_15 rfl rfl ?_
  have hl : (((.inl (9, [.ref 1, .null, .null, .null, .null, .null, .null, .null, .null, .null, .null, .null, .int 0, .int 0]) : PCl) :: new)).length = 12 := by rw [List.length_cons, hlen]
  refine cw_new (cs := ((.inl (9, [.ref 1, .null, .null, .null, .null, .null, .null, .null, .null, .null, .null, .null, .int 0, .int 0]) : PCl) :: new)) dX9_init_16 clX8 kl_X9_9 ki_X8 kI_X8.1.1 (fs := [.null, .null, .null, .null, .null, .null, .null, .int 0, .int 0, .int 0, .int 0, .int 0, .null, .null]) (by decide +kernel) rfl (Nat.le_of_ble_eq_true rfl) (Nat.le_of_ble_eq_true rfl) ?_
  refine cw_st (st' := [.ref 12, .ref 0]) (by rw [hl]) ?_
  refine cw_dup dX9_init_19 rfl ?_
  have hc := m_valley (d := d) ((.inl (9, [.ref 1, .null, .null, .null, .null, .null, .null, .null, .null, .null, .null, .null, .int 0, .int 0]) : PCl) :: new)
  rw [hl] at hc
  refine cw_callIN (mi := iX8_init) (k0 := 12) (av := []) (st := [.ref 12, .ref 0]) dX9_init_20 (by decide +kernel) kI_X8 rfl rfl rfl rfl (Nat.le_of_ble_eq_true rfl) (Nat.le_of_ble_eq_true rfl) (Nat.le_of_ble_eq_true rfl) hc ?_
  refine cw_eq (cs' := (.inl (9, [.ref 1, .null, .null, .null, .null, .null, .null, .null, .null, .null, .null, .null, .int 0, .int 0]) : PCl) :: (new ++ valC 12)) rfl ?_
  refine cw_putF (t := .object "TallerWitness$Valley") (q := (RX9, TX9, 14)) dX9_init_23 fl_X9_16 rfl rfl rfl (by decide +kernel) rfl (Nat.le_of_ble_eq_true rfl) (fun _ => rfl) (fun _ => rfl) ?_
  refine cw_eq (cs' := (.inl (9, [.ref 1, .ref 12, .null, .null, .null, .null, .null, .null, .null, .null, .null, .null, .int 0, .int 0]) : PCl) :: (new ++ valC 12)) rfl ?_
  exact k
theorem tw_s3 {d : Nat} {new : List PCl} (hlen : new.length = 22) (k : CW RX9 cX9_init 2 (d + 4) 76 2278 twC 33 441 37 [some (.ref 0), none] [] ((.inl (9, [.ref 1, .ref 12, .ref 23, .null, .null, .null, .null, .null, .null, .null, .null, .null, .int 0, .int 0]) : PCl) :: (new ++ valC 23))) : CW RX9 cX9_init 2 (d + 4) 76 2278 twC 22 294 26 [some (.ref 0), none] [] ((.inl (9, [.ref 1, .ref 12, .null, .null, .null, .null, .null, .null, .null, .null, .null, .null, .int 0, .int 0]) : PCl) :: new) := by
  refine cw_aload_n dX9_init_26 rfl rfl ?_
  have hl : (((.inl (9, [.ref 1, .ref 12, .null, .null, .null, .null, .null, .null, .null, .null, .null, .null, .int 0, .int 0]) : PCl) :: new)).length = 23 := by rw [List.length_cons, hlen]
  refine cw_new (cs := ((.inl (9, [.ref 1, .ref 12, .null, .null, .null, .null, .null, .null, .null, .null, .null, .null, .int 0, .int 0]) : PCl) :: new)) dX9_init_27 clX8 kl_X9_9 ki_X8 kI_X8.1.1 (fs := [.null, .null, .null, .null, .null, .null, .null, .int 0, .int 0, .int 0, .int 0, .int 0, .null, .null]) (by decide +kernel) rfl (Nat.le_of_ble_eq_true rfl) (Nat.le_of_ble_eq_true rfl) ?_
  refine cw_st (st' := [.ref 23, .ref 0]) (by rw [hl]) ?_
  refine cw_dup dX9_init_30 rfl ?_
  have hc := m_valley (d := d) ((.inl (9, [.ref 1, .ref 12, .null, .null, .null, .null, .null, .null, .null, .null, .null, .null, .int 0, .int 0]) : PCl) :: new)
  rw [hl] at hc
  refine cw_callIN (mi := iX8_init) (k0 := 23) (av := []) (st := [.ref 23, .ref 0]) dX9_init_31 (by decide +kernel) kI_X8 rfl rfl rfl rfl (Nat.le_of_ble_eq_true rfl) (Nat.le_of_ble_eq_true rfl) (Nat.le_of_ble_eq_true rfl) hc ?_
  refine cw_eq (cs' := (.inl (9, [.ref 1, .ref 12, .null, .null, .null, .null, .null, .null, .null, .null, .null, .null, .int 0, .int 0]) : PCl) :: (new ++ valC 23)) rfl ?_
  refine cw_putF (t := .object "TallerWitness$Valley") (q := (RX9, TX9, 14)) dX9_init_34 fl_X9_19 rfl rfl rfl (by decide +kernel) rfl (Nat.le_of_ble_eq_true rfl) (fun _ => rfl) (fun _ => rfl) ?_
  refine cw_eq (cs' := (.inl (9, [.ref 1, .ref 12, .ref 23, .null, .null, .null, .null, .null, .null, .null, .null, .null, .int 0, .int 0]) : PCl) :: (new ++ valC 23)) rfl ?_
  exact k
theorem tw_s4 {d : Nat} {new : List PCl} (hlen : new.length = 33) (k : CW RX9 cX9_init 2 (d + 4) 76 2278 twC 35 643 48 [some (.ref 0), none] [] ((.inl (9, [.ref 1, .ref 12, .ref 23, .ref 34, .null, .null, .null, .null, .null, .null, .null, .null, .int 0, .int 0]) : PCl) :: (new ++ tapC 34))) : CW RX9 cX9_init 2 (d + 4) 76 2278 twC 33 441 37 [some (.ref 0), none] [] ((.inl (9, [.ref 1, .ref 12, .ref 23, .null, .null, .null, .null, .null, .null, .null, .null, .null, .int 0, .int 0]) : PCl) :: new) := by
  refine cw_aload_n dX9_init_37 rfl rfl ?_
  have hl : (((.inl (9, [.ref 1, .ref 12, .ref 23, .null, .null, .null, .null, .null, .null, .null, .null, .null, .int 0, .int 0]) : PCl) :: new)).length = 34 := by rw [List.length_cons, hlen]
  refine cw_new (cs := ((.inl (9, [.ref 1, .ref 12, .ref 23, .null, .null, .null, .null, .null, .null, .null, .null, .null, .int 0, .int 0]) : PCl) :: new)) dX9_init_38 clX7 kl_X9_22 ki_X7 kI_X7.1.1 (fs := [.null, .int 0]) (by decide +kernel) rfl (Nat.le_of_ble_eq_true rfl) (Nat.le_of_ble_eq_true rfl) ?_
  refine cw_st (st' := [.ref 34, .ref 0]) (by rw [hl]) ?_
  refine cw_dup dX9_init_41 rfl ?_
  have hc := m_tape (d := d + 2) ((.inl (9, [.ref 1, .ref 12, .ref 23, .null, .null, .null, .null, .null, .null, .null, .null, .null, .int 0, .int 0]) : PCl) :: new)
  rw [hl] at hc
  refine cw_callIN (mi := iX7_init) (k0 := 34) (av := []) (st := [.ref 34, .ref 0]) dX9_init_42 (by decide +kernel) kI_X7 rfl rfl rfl rfl (Nat.le_of_ble_eq_true rfl) (Nat.le_of_ble_eq_true rfl) (Nat.le_of_ble_eq_true rfl) hc ?_
  refine cw_eq (cs' := (.inl (9, [.ref 1, .ref 12, .ref 23, .null, .null, .null, .null, .null, .null, .null, .null, .null, .int 0, .int 0]) : PCl) :: (new ++ tapC 34)) rfl ?_
  refine cw_putF (t := .object "TallerWitness$Tape") (q := (RX9, TX9, 14)) dX9_init_45 fl_X9_25 rfl rfl rfl (by decide +kernel) rfl (Nat.le_of_ble_eq_true rfl) (fun _ => rfl) (fun _ => rfl) ?_
  refine cw_eq (cs' := (.inl (9, [.ref 1, .ref 12, .ref 23, .ref 34, .null, .null, .null, .null, .null, .null, .null, .null, .int 0, .int 0]) : PCl) :: (new ++ tapC 34)) rfl ?_
  exact k
theorem tw_s5 {d : Nat} {new : List PCl} (hlen : new.length = 35) (k : CW RX9 cX9_init 2 (d + 4) 76 2278 twC 36 645 56 [some (.ref 0), none] [] ((.inl (9, [.ref 1, .ref 12, .ref 23, .ref 34, .ref 36, .null, .null, .null, .null, .null, .null, .null, .int 0, .int 0]) : PCl) :: (new ++ [.inr (.inr [none, none])]))) : CW RX9 cX9_init 2 (d + 4) 76 2278 twC 35 643 48 [some (.ref 0), none] [] ((.inl (9, [.ref 1, .ref 12, .ref 23, .ref 34, .null, .null, .null, .null, .null, .null, .null, .null, .int 0, .int 0]) : PCl) :: new) := by
  refine cw_aload_n dX9_init_48 rfl rfl ?_
  refine cw_iconst (v := 2) dX9_init_49 (by decide) ?_
  have hl : (((.inl (9, [.ref 1, .ref 12, .ref 23, .ref 34, .null, .null, .null, .null, .null, .null, .null, .null, .int 0, .int 0]) : PCl) :: new)).length = 36 := by rw [List.length_cons, hlen]
  refine cw_newq (cs := ((.inl (9, [.ref 1, .ref 12, .ref 23, .ref 34, .null, .null, .null, .null, .null, .null, .null, .null, .int 0, .int 0]) : PCl) :: new)) (N := 2) dX9_init_50 kl_X9_29 (by decide) rfl (by decide) (Nat.le_of_ble_eq_true rfl) (Nat.le_of_ble_eq_true rfl) ?_
  refine cw_eq (cs' := (.inl (9, [.ref 1, .ref 12, .ref 23, .ref 34, .null, .null, .null, .null, .null, .null, .null, .null, .int 0, .int 0]) : PCl) :: (new ++ [.inr (.inr [none, none])])) rfl ?_
  refine cw_st (st' := [.ref 36, .ref 0]) (by rw [hl]) ?_
  refine cw_putF (t := .array (.object "TallerWitness$Law")) (q := (RX9, TX9, 14)) dX9_init_53 fl_X9_31 rfl rfl rfl (by decide +kernel) rfl (Nat.le_of_ble_eq_true rfl) (fun _ => rfl) (fun _ => rfl) ?_
  refine cw_eq (cs' := (.inl (9, [.ref 1, .ref 12, .ref 23, .ref 34, .ref 36, .null, .null, .null, .null, .null, .null, .null, .int 0, .int 0]) : PCl) :: (new ++ [.inr (.inr [none, none])])) rfl ?_
  exact k
theorem tw_s6 {d : Nat} {new : List PCl} (hlen : new.length = 36) (k : CW RX9 cX9_init 2 (d + 4) 76 2278 twC 36 645 58 [some (.ref 0), some (.int 0)] [] ((.inl (9, [.ref 1, .ref 12, .ref 23, .ref 34, .ref 36, .null, .null, .null, .null, .null, .null, .null, .int 0, .int 0]) : PCl) :: (new))) : CW RX9 cX9_init 2 (d + 4) 76 2278 twC 36 645 56 [some (.ref 0), none] [] ((.inl (9, [.ref 1, .ref 12, .ref 23, .ref 34, .ref 36, .null, .null, .null, .null, .null, .null, .null, .int 0, .int 0]) : PCl) :: new) := by
  refine cw_iconst (v := 0) dX9_init_56 (by decide) ?_
  refine cw_istore_n (x := 0) dX9_init_57 rfl (by decide) (L2 := [some (.ref 0), some (.int 0)]) rfl ?_
  exact k
theorem tw_s7 {d : Nat} {nA nB : List PCl} (hA : nA.length = 35) (hlen : (nA ++ (.inr (.inr [none, none]) :: nB)).length = 36) (k : CW RX9 cX9_init 2 (d + 4) 76 2278 twC 44 1054 58 [some (.ref 0), some (.int 1)] [] ((.inl (9, [.ref 1, .ref 12, .ref 23, .ref 34, .ref 36, .null, .null, .null, .null, .null, .null, .null, .int 0, .int 0]) : PCl) :: (nA ++ (.inr (.inr [some 37, none]) :: nB) ++ lwC 37))) : CW RX9 cX9_init 2 (d + 4) 76 2278 twC 36 645 58 [some (.ref 0), some (.int 0)] [] ((.inl (9, [.ref 1, .ref 12, .ref 23, .ref 34, .ref 36, .null, .null, .null, .null, .null, .null, .null, .int 0, .int 0]) : PCl) :: (nA ++ (.inr (.inr [none, none]) :: nB))) := by
  refine cw_iload_n dX9_init_58 rfl rfl ?_
  refine cw_iconst (v := 2) dX9_init_59 (by decide) ?_
  refine cw_icmp_ge (tgt := 82) dX9_init_60 (by decide) (fun z => absurd z (by decide)) (fun _ => ?_)
  refine cw_aload_n dX9_init_63 rfl rfl ?_
  refine cw_get (v := .ref 36) dX9_init_64 fl_X9_31 rfl rfl ?_
  refine cw_iload_n dX9_init_67 rfl rfl ?_
  have hl : (((.inl (9, [.ref 1, .ref 12, .ref 23, .ref 34, .ref 36, .null, .null, .null, .null, .null, .null, .null, .int 0, .int 0]) : PCl) :: (nA ++ (.inr (.inr [none, none]) :: nB)))).length = 37 := by rw [List.length_cons, hlen]
  refine cw_new (cs := ((.inl (9, [.ref 1, .ref 12, .ref 23, .ref 34, .ref 36, .null, .null, .null, .null, .null, .null, .null, .int 0, .int 0]) : PCl) :: (nA ++ (.inr (.inr [none, none]) :: nB)))) dX9_init_68 clX2 kl_X9_29 ki_X2 kI_X2.1.1 (fs := [.int 0, .int 0, .null, .null, .null, .null, .null, .null, .null]) (by decide +kernel) rfl (Nat.le_of_ble_eq_true rfl) (Nat.le_of_ble_eq_true rfl) ?_
  refine cw_st (st' := [.ref 37, .int 0, .ref 36]) (by rw [hl]) ?_
  refine cw_dup dX9_init_71 rfl ?_
  have hc := m_law (d := d + 2) ((.inl (9, [.ref 1, .ref 12, .ref 23, .ref 34, .ref 36, .null, .null, .null, .null, .null, .null, .null, .int 0, .int 0]) : PCl) :: (nA ++ (.inr (.inr [none, none]) :: nB)))
  rw [hl] at hc
  refine cw_callIN (mi := iX2_init) (k0 := 37) (av := []) (st := [.ref 37, .int 0, .ref 36]) dX9_init_72 (by decide +kernel) kI_X2 rfl rfl rfl rfl (Nat.le_of_ble_eq_true rfl) (Nat.le_of_ble_eq_true rfl) (Nat.le_of_ble_eq_true rfl) hc ?_
  refine cw_eq (cs' := (.inl (9, [.ref 1, .ref 12, .ref 23, .ref 34, .ref 36, .null, .null, .null, .null, .null, .null, .null, .int 0, .int 0]) : PCl) :: ((nA ++ (.inr (.inr [none, none]) :: nB)) ++ lwC 37)) rfl ?_
  refine cw_ast (k0 := 36) (qk := 37) (rs := [none, none]) (vs := [.int 0, .int 0, .ref 38, .ref 39, .ref 40, .ref 41, .ref 42, .ref 43, .ref 44]) dX9_init_75 ?_ ?_ (show vp_in (nI 0) 2 from vp_in_nI (by decide) (by decide)) ?_
  · rw [← List.cons_append, List.getElem?_append_left (by rw [List.length_cons, hlen]; omega), ← List.cons_append, List.getElem?_append_right (by rw [List.length_cons, hA]; omega), List.length_cons, hA]; rfl
  · rw [← List.cons_append, List.getElem?_append_right (by rw [List.length_cons, hlen]; omega), List.length_cons, hlen]; rfl
  refine cw_eq (cs' := (.inl (9, [.ref 1, .ref 12, .ref 23, .ref 34, .ref 36, .null, .null, .null, .null, .null, .null, .null, .int 0, .int 0]) : PCl) :: (nA ++ (.inr (.inr [some 37, none]) :: nB) ++ lwC 37)) ?_ ?_
  · rw [← List.cons_append, List.set_append_left _ _ (by rw [List.length_cons, hlen]; omega), ← List.cons_append, List.set_append_right _ _ (by rw [List.length_cons, hA]; omega), List.length_cons, hA]; rfl
  refine cw_iinc (x := 0) (y := 1) dX9_init_76 rfl (by decide) (by decide) (L2 := [some (.ref 0), some (.int 1)]) rfl ?_
  refine cw_goto (tgt := 58) dX9_init_79 (by decide) ?_
  exact k
theorem tw_s8 {d : Nat} {nA nB : List PCl} (hA : nA.length = 35) (hlen : (nA ++ (.inr (.inr [some 37, none]) :: nB)).length = 44) (k : CW RX9 cX9_init 2 (d + 4) 76 2278 twC 52 1463 58 [some (.ref 0), some (.int 2)] [] ((.inl (9, [.ref 1, .ref 12, .ref 23, .ref 34, .ref 36, .null, .null, .null, .null, .null, .null, .null, .int 0, .int 0]) : PCl) :: (nA ++ (.inr (.inr [some 37, some 45]) :: nB) ++ lwC 45))) : CW RX9 cX9_init 2 (d + 4) 76 2278 twC 44 1054 58 [some (.ref 0), some (.int 1)] [] ((.inl (9, [.ref 1, .ref 12, .ref 23, .ref 34, .ref 36, .null, .null, .null, .null, .null, .null, .null, .int 0, .int 0]) : PCl) :: (nA ++ (.inr (.inr [some 37, none]) :: nB))) := by
  refine cw_iload_n dX9_init_58 rfl rfl ?_
  refine cw_iconst (v := 2) dX9_init_59 (by decide) ?_
  refine cw_icmp_ge (tgt := 82) dX9_init_60 (by decide) (fun z => absurd z (by decide)) (fun _ => ?_)
  refine cw_aload_n dX9_init_63 rfl rfl ?_
  refine cw_get (v := .ref 36) dX9_init_64 fl_X9_31 rfl rfl ?_
  refine cw_iload_n dX9_init_67 rfl rfl ?_
  have hl : (((.inl (9, [.ref 1, .ref 12, .ref 23, .ref 34, .ref 36, .null, .null, .null, .null, .null, .null, .null, .int 0, .int 0]) : PCl) :: (nA ++ (.inr (.inr [some 37, none]) :: nB)))).length = 45 := by rw [List.length_cons, hlen]
  refine cw_new (cs := ((.inl (9, [.ref 1, .ref 12, .ref 23, .ref 34, .ref 36, .null, .null, .null, .null, .null, .null, .null, .int 0, .int 0]) : PCl) :: (nA ++ (.inr (.inr [some 37, none]) :: nB)))) dX9_init_68 clX2 kl_X9_29 ki_X2 kI_X2.1.1 (fs := [.int 0, .int 0, .null, .null, .null, .null, .null, .null, .null]) (by decide +kernel) rfl (Nat.le_of_ble_eq_true rfl) (Nat.le_of_ble_eq_true rfl) ?_
  refine cw_st (st' := [.ref 45, .int 1, .ref 36]) (by rw [hl]) ?_
  refine cw_dup dX9_init_71 rfl ?_
  have hc := m_law (d := d + 2) ((.inl (9, [.ref 1, .ref 12, .ref 23, .ref 34, .ref 36, .null, .null, .null, .null, .null, .null, .null, .int 0, .int 0]) : PCl) :: (nA ++ (.inr (.inr [some 37, none]) :: nB)))
  rw [hl] at hc
  refine cw_callIN (mi := iX2_init) (k0 := 45) (av := []) (st := [.ref 45, .int 1, .ref 36]) dX9_init_72 (by decide +kernel) kI_X2 rfl rfl rfl rfl (Nat.le_of_ble_eq_true rfl) (Nat.le_of_ble_eq_true rfl) (Nat.le_of_ble_eq_true rfl) hc ?_
  refine cw_eq (cs' := (.inl (9, [.ref 1, .ref 12, .ref 23, .ref 34, .ref 36, .null, .null, .null, .null, .null, .null, .null, .int 0, .int 0]) : PCl) :: ((nA ++ (.inr (.inr [some 37, none]) :: nB)) ++ lwC 45)) rfl ?_
  refine cw_ast (k0 := 36) (qk := 45) (rs := [some 37, none]) (vs := [.int 0, .int 0, .ref 46, .ref 47, .ref 48, .ref 49, .ref 50, .ref 51, .ref 52]) dX9_init_75 ?_ ?_ (show vp_in (nI 1) 2 from vp_in_nI (by decide) (by decide)) ?_
  · rw [← List.cons_append, List.getElem?_append_left (by rw [List.length_cons, hlen]; omega), ← List.cons_append, List.getElem?_append_right (by rw [List.length_cons, hA]; omega), List.length_cons, hA]; rfl
  · rw [← List.cons_append, List.getElem?_append_right (by rw [List.length_cons, hlen]; omega), List.length_cons, hlen]; rfl
  refine cw_eq (cs' := (.inl (9, [.ref 1, .ref 12, .ref 23, .ref 34, .ref 36, .null, .null, .null, .null, .null, .null, .null, .int 0, .int 0]) : PCl) :: (nA ++ (.inr (.inr [some 37, some 45]) :: nB) ++ lwC 45)) ?_ ?_
  · rw [← List.cons_append, List.set_append_left _ _ (by rw [List.length_cons, hlen]; omega), ← List.cons_append, List.set_append_right _ _ (by rw [List.length_cons, hA]; omega), List.length_cons, hA]; rfl
  refine cw_iinc (x := 1) (y := 1) dX9_init_76 rfl (by decide) (by decide) (L2 := [some (.ref 0), some (.int 2)]) rfl ?_
  refine cw_goto (tgt := 58) dX9_init_79 (by decide) ?_
  exact k
theorem tw_s9 {d : Nat} {new : List PCl} (hlen : new.length = 52) (k : CW RX9 cX9_init 2 (d + 4) 76 2278 twC 52 1463 82 [some (.ref 0), some (.int 2)] [] ((.inl (9, [.ref 1, .ref 12, .ref 23, .ref 34, .ref 36, .null, .null, .null, .null, .null, .null, .null, .int 0, .int 0]) : PCl) :: (new))) : CW RX9 cX9_init 2 (d + 4) 76 2278 twC 52 1463 58 [some (.ref 0), some (.int 2)] [] ((.inl (9, [.ref 1, .ref 12, .ref 23, .ref 34, .ref 36, .null, .null, .null, .null, .null, .null, .null, .int 0, .int 0]) : PCl) :: new) := by
  refine cw_iload_n dX9_init_58 rfl rfl ?_
  refine cw_iconst (v := 2) dX9_init_59 (by decide) ?_
  refine cw_icmp_ge (tgt := 82) dX9_init_60 (by decide) (fun _ => ?_) (fun z => absurd (by decide) z)
  exact k
theorem tw_s10 {d : Nat} {new : List PCl} (hlen : new.length = 52) (k : CW RX9 cX9_init 2 (d + 4) 76 2278 twC 60 1872 93 [some (.ref 0), some (.int 2)] [] ((.inl (9, [.ref 1, .ref 12, .ref 23, .ref 34, .ref 36, .ref 53, .null, .null, .null, .null, .null, .null, .int 0, .int 0]) : PCl) :: (new ++ lwC 53))) : CW RX9 cX9_init 2 (d + 4) 76 2278 twC 52 1463 82 [some (.ref 0), some (.int 2)] [] ((.inl (9, [.ref 1, .ref 12, .ref 23, .ref 34, .ref 36, .null, .null, .null, .null, .null, .null, .null, .int 0, .int 0]) : PCl) :: new) := by
  refine cw_aload_n dX9_init_82 rfl rfl ?_
  have hl : (((.inl (9, [.ref 1, .ref 12, .ref 23, .ref 34, .ref 36, .null, .null, .null, .null, .null, .null, .null, .int 0, .int 0]) : PCl) :: new)).length = 53 := by rw [List.length_cons, hlen]
  refine cw_new (cs := ((.inl (9, [.ref 1, .ref 12, .ref 23, .ref 34, .ref 36, .null, .null, .null, .null, .null, .null, .null, .int 0, .int 0]) : PCl) :: new)) dX9_init_83 clX2 kl_X9_29 ki_X2 kI_X2.1.1 (fs := [.int 0, .int 0, .null, .null, .null, .null, .null, .null, .null]) (by decide +kernel) rfl (Nat.le_of_ble_eq_true rfl) (Nat.le_of_ble_eq_true rfl) ?_
  refine cw_st (st' := [.ref 53, .ref 0]) (by rw [hl]) ?_
  refine cw_dup dX9_init_86 rfl ?_
  have hc := m_law (d := d + 2) ((.inl (9, [.ref 1, .ref 12, .ref 23, .ref 34, .ref 36, .null, .null, .null, .null, .null, .null, .null, .int 0, .int 0]) : PCl) :: new)
  rw [hl] at hc
  refine cw_callIN (mi := iX2_init) (k0 := 53) (av := []) (st := [.ref 53, .ref 0]) dX9_init_87 (by decide +kernel) kI_X2 rfl rfl rfl rfl (Nat.le_of_ble_eq_true rfl) (Nat.le_of_ble_eq_true rfl) (Nat.le_of_ble_eq_true rfl) hc ?_
  refine cw_eq (cs' := (.inl (9, [.ref 1, .ref 12, .ref 23, .ref 34, .ref 36, .null, .null, .null, .null, .null, .null, .null, .int 0, .int 0]) : PCl) :: (new ++ lwC 53)) rfl ?_
  refine cw_putF (t := .object "TallerWitness$Law") (q := (RX9, TX9, 14)) dX9_init_90 fl_X9_36 rfl rfl rfl (by decide +kernel) rfl (Nat.le_of_ble_eq_true rfl) (fun _ => rfl) (fun _ => rfl) ?_
  refine cw_eq (cs' := (.inl (9, [.ref 1, .ref 12, .ref 23, .ref 34, .ref 36, .ref 53, .null, .null, .null, .null, .null, .null, .int 0, .int 0]) : PCl) :: (new ++ lwC 53)) rfl ?_
  exact k
theorem tw_s11 {d : Nat} {new : List PCl} (hlen : new.length = 60) (k : CW RX9 cX9_init 2 (d + 4) 76 2278 twC 61 1877 112 [some (.ref 0), some (.int 2)] [] ((.inl (9, [.ref 1, .ref 12, .ref 23, .ref 34, .ref 36, .ref 53, .ref 61, .null, .null, .null, .null, .null, .int 0, .int 0]) : PCl) :: (new ++ rdC 61 34 53))) : CW RX9 cX9_init 2 (d + 4) 76 2278 twC 60 1872 93 [some (.ref 0), some (.int 2)] [] ((.inl (9, [.ref 1, .ref 12, .ref 23, .ref 34, .ref 36, .ref 53, .null, .null, .null, .null, .null, .null, .int 0, .int 0]) : PCl) :: new) := by
  refine cw_aload_n dX9_init_93 rfl rfl ?_
  have hl : (((.inl (9, [.ref 1, .ref 12, .ref 23, .ref 34, .ref 36, .ref 53, .null, .null, .null, .null, .null, .null, .int 0, .int 0]) : PCl) :: new)).length = 61 := by rw [List.length_cons, hlen]
  refine cw_new (cs := ((.inl (9, [.ref 1, .ref 12, .ref 23, .ref 34, .ref 36, .ref 53, .null, .null, .null, .null, .null, .null, .int 0, .int 0]) : PCl) :: new)) dX9_init_94 clX3 kl_X9_40 ki_X3 kI_X3.1.1 (fs := [.null, .null, .int 0, .int 0, .int 0]) (by decide +kernel) rfl (Nat.le_of_ble_eq_true rfl) (Nat.le_of_ble_eq_true rfl) ?_
  refine cw_st (st' := [.ref 61, .ref 0]) (by rw [hl]) ?_
  refine cw_dup dX9_init_97 rfl ?_
  refine cw_aload_n dX9_init_98 rfl rfl ?_
  refine cw_get (v := .ref 34) dX9_init_99 fl_X9_25 rfl rfl ?_
  refine cw_aload_n dX9_init_102 rfl rfl ?_
  refine cw_get (v := .ref 53) dX9_init_103 fl_X9_36 rfl rfl ?_
  have hc := m_reader (d := d + 2) ((.inl (9, [.ref 1, .ref 12, .ref 23, .ref 34, .ref 36, .ref 53, .null, .null, .null, .null, .null, .null, .int 0, .int 0]) : PCl) :: new) 34 53
  rw [hl] at hc
  refine cw_callI (mi := iX3_init) (k0 := 61) (av := [.ref 34, .ref 53]) (st := [.ref 61, .ref 0]) dX9_init_106 ml_X9_42 kI_X3 rfl rfl rfl rfl (Nat.le_of_ble_eq_true rfl) (Nat.le_of_ble_eq_true rfl) (Nat.le_of_ble_eq_true rfl) hc ?_
  refine cw_eq (cs' := (.inl (9, [.ref 1, .ref 12, .ref 23, .ref 34, .ref 36, .ref 53, .null, .null, .null, .null, .null, .null, .int 0, .int 0]) : PCl) :: (new ++ rdC 61 34 53)) rfl ?_
  refine cw_putF (t := .object "TallerWitness$LawReader") (q := (RX9, TX9, 14)) dX9_init_109 fl_X9_45 rfl rfl rfl (by decide +kernel) rfl (Nat.le_of_ble_eq_true rfl) (fun _ => rfl) (fun _ => rfl) ?_
  refine cw_eq (cs' := (.inl (9, [.ref 1, .ref 12, .ref 23, .ref 34, .ref 36, .ref 53, .ref 61, .null, .null, .null, .null, .null, .int 0, .int 0]) : PCl) :: (new ++ rdC 61 34 53)) rfl ?_
  exact k
theorem tw_s12 {d : Nat} {new : List PCl} (hlen : new.length = 61) (hlw : new[35]? = some (.inr (.inr [some 37, some 45]))) (k : CW RX9 cX9_init 2 (d + 4) 76 2278 twC 68 2203 133 [some (.ref 0), some (.int 2)] [] ((.inl (9, [.ref 1, .ref 12, .ref 23, .ref 34, .ref 36, .ref 53, .ref 61, .ref 62, .null, .null, .null, .null, .int 0, .int 0]) : PCl) :: (new ++ stC 62 1 37))) : CW RX9 cX9_init 2 (d + 4) 76 2278 twC 61 1877 112 [some (.ref 0), some (.int 2)] [] ((.inl (9, [.ref 1, .ref 12, .ref 23, .ref 34, .ref 36, .ref 53, .ref 61, .null, .null, .null, .null, .null, .int 0, .int 0]) : PCl) :: new) := by
  refine cw_aload_n dX9_init_112 rfl rfl ?_
  have hl : (((.inl (9, [.ref 1, .ref 12, .ref 23, .ref 34, .ref 36, .ref 53, .ref 61, .null, .null, .null, .null, .null, .int 0, .int 0]) : PCl) :: new)).length = 62 := by rw [List.length_cons, hlen]
  refine cw_new (cs := ((.inl (9, [.ref 1, .ref 12, .ref 23, .ref 34, .ref 36, .ref 53, .ref 61, .null, .null, .null, .null, .null, .int 0, .int 0]) : PCl) :: new)) dX9_init_113 clX6 kl_X9_49 ki_X6 kI_X6.1.1 (fs := [.null, .null, .null, .null, .null, .null, .null, .int 0, .int 0]) (by decide +kernel) rfl (Nat.le_of_ble_eq_true rfl) (Nat.le_of_ble_eq_true rfl) ?_
  refine cw_st (st' := [.ref 62, .ref 0]) (by rw [hl]) ?_
  refine cw_dup dX9_init_116 rfl ?_
  refine cw_aload_n dX9_init_117 rfl rfl ?_
  refine cw_get (v := .ref 1) dX9_init_118 fl_X9_12 rfl rfl ?_
  refine cw_aload_n dX9_init_121 rfl rfl ?_
  refine cw_get (v := .ref 36) dX9_init_122 fl_X9_31 rfl rfl ?_
  refine cw_iconst (v := 0) dX9_init_125 (by decide) ?_
  refine cw_ald (r := 37) (rs := [some 37, some 45]) dX9_init_126 (by rw [List.getElem?_append_left (by rw [List.length_cons, hlen]; omega)]; exact hlw) (show vp_in (nI 0) 2 from vp_in_nI (by decide) (by decide)) rfl ?_
  have hc := m_steps (d := d) ((.inl (9, [.ref 1, .ref 12, .ref 23, .ref 34, .ref 36, .ref 53, .ref 61, .null, .null, .null, .null, .null, .int 0, .int 0]) : PCl) :: new) 1 37
  rw [hl] at hc
  refine cw_callI (mi := iX6_init) (k0 := 62) (av := [.ref 1, .ref 37]) (st := [.ref 62, .ref 0]) dX9_init_127 ml_X9_51 kI_X6 rfl rfl rfl rfl (Nat.le_of_ble_eq_true rfl) (Nat.le_of_ble_eq_true rfl) (Nat.le_of_ble_eq_true rfl) hc ?_
  refine cw_eq (cs' := (.inl (9, [.ref 1, .ref 12, .ref 23, .ref 34, .ref 36, .ref 53, .ref 61, .null, .null, .null, .null, .null, .int 0, .int 0]) : PCl) :: (new ++ stC 62 1 37)) rfl ?_
  refine cw_putF (t := .object "TallerWitness$Steps") (q := (RX9, TX9, 14)) dX9_init_130 fl_X9_54 rfl rfl rfl (by decide +kernel) rfl (Nat.le_of_ble_eq_true rfl) (fun _ => rfl) (fun _ => rfl) ?_
  refine cw_eq (cs' := (.inl (9, [.ref 1, .ref 12, .ref 23, .ref 34, .ref 36, .ref 53, .ref 61, .ref 62, .null, .null, .null, .null, .int 0, .int 0]) : PCl) :: (new ++ stC 62 1 37)) rfl ?_
  exact k
theorem tw_s13 {d : Nat} {new : List PCl} (hlen : new.length = 68) (k : CW RX9 cX9_init 2 (d + 4) 76 2278 twC 72 2256 148 [some (.ref 0), some (.int 2)] [] ((.inl (9, [.ref 1, .ref 12, .ref 23, .ref 34, .ref 36, .ref 53, .ref 61, .ref 62, .ref 69, .null, .null, .null, .int 0, .int 0]) : PCl) :: (new ++ chC 69 62))) : CW RX9 cX9_init 2 (d + 4) 76 2278 twC 68 2203 133 [some (.ref 0), some (.int 2)] [] ((.inl (9, [.ref 1, .ref 12, .ref 23, .ref 34, .ref 36, .ref 53, .ref 61, .ref 62, .null, .null, .null, .null, .int 0, .int 0]) : PCl) :: new) := by
  refine cw_aload_n dX9_init_133 rfl rfl ?_
  have hl : (((.inl (9, [.ref 1, .ref 12, .ref 23, .ref 34, .ref 36, .ref 53, .ref 61, .ref 62, .null, .null, .null, .null, .int 0, .int 0]) : PCl) :: new)).length = 69 := by rw [List.length_cons, hlen]
  refine cw_new (cs := ((.inl (9, [.ref 1, .ref 12, .ref 23, .ref 34, .ref 36, .ref 53, .ref 61, .ref 62, .null, .null, .null, .null, .int 0, .int 0]) : PCl) :: new)) dX9_init_134 clX0 kl_X9_58 ki_X0 kI_X0.1.1 (fs := [.null, .null, .null, .null, .int 0]) (by decide +kernel) rfl (Nat.le_of_ble_eq_true rfl) (Nat.le_of_ble_eq_true rfl) ?_
  refine cw_st (st' := [.ref 69, .ref 0]) (by rw [hl]) ?_
  refine cw_dup dX9_init_137 rfl ?_
  refine cw_aload_n dX9_init_138 rfl rfl ?_
  refine cw_get (v := .ref 62) dX9_init_139 fl_X9_54 rfl rfl ?_
  have hc := m_chains (d := d + 2) ((.inl (9, [.ref 1, .ref 12, .ref 23, .ref 34, .ref 36, .ref 53, .ref 61, .ref 62, .null, .null, .null, .null, .int 0, .int 0]) : PCl) :: new) 62
  rw [hl] at hc
  refine cw_callI (mi := iX0_init) (k0 := 69) (av := [.ref 62]) (st := [.ref 69, .ref 0]) dX9_init_142 ml_X9_60 kI_X0 rfl rfl rfl rfl (Nat.le_of_ble_eq_true rfl) (Nat.le_of_ble_eq_true rfl) (Nat.le_of_ble_eq_true rfl) hc ?_
  refine cw_eq (cs' := (.inl (9, [.ref 1, .ref 12, .ref 23, .ref 34, .ref 36, .ref 53, .ref 61, .ref 62, .null, .null, .null, .null, .int 0, .int 0]) : PCl) :: (new ++ chC 69 62)) rfl ?_
  refine cw_putF (t := .object "TallerWitness$ChainSearch") (q := (RX9, TX9, 14)) dX9_init_145 fl_X9_63 rfl rfl rfl (by decide +kernel) rfl (Nat.le_of_ble_eq_true rfl) (fun _ => rfl) (fun _ => rfl) ?_
  refine cw_eq (cs' := (.inl (9, [.ref 1, .ref 12, .ref 23, .ref 34, .ref 36, .ref 53, .ref 61, .ref 62, .ref 69, .null, .null, .null, .int 0, .int 0]) : PCl) :: (new ++ chC 69 62)) rfl ?_
  exact k
theorem tw_s14 {d : Nat} {new : List PCl} (hlen : new.length = 72) (k : CW RX9 cX9_init 2 (d + 4) 76 2278 twC 73 2261 163 [some (.ref 0), some (.int 2)] [] ((.inl (9, [.ref 1, .ref 12, .ref 23, .ref 34, .ref 36, .ref 53, .ref 61, .ref 62, .ref 69, .ref 73, .null, .null, .int 0, .int 0]) : PCl) :: (new ++ sfC 73 62))) : CW RX9 cX9_init 2 (d + 4) 76 2278 twC 72 2256 148 [some (.ref 0), some (.int 2)] [] ((.inl (9, [.ref 1, .ref 12, .ref 23, .ref 34, .ref 36, .ref 53, .ref 61, .ref 62, .ref 69, .null, .null, .null, .int 0, .int 0]) : PCl) :: new) := by
  refine cw_aload_n dX9_init_148 rfl rfl ?_
  have hl : (((.inl (9, [.ref 1, .ref 12, .ref 23, .ref 34, .ref 36, .ref 53, .ref 61, .ref 62, .ref 69, .null, .null, .null, .int 0, .int 0]) : PCl) :: new)).length = 73 := by rw [List.length_cons, hlen]
  refine cw_new (cs := ((.inl (9, [.ref 1, .ref 12, .ref 23, .ref 34, .ref 36, .ref 53, .ref 61, .ref 62, .ref 69, .null, .null, .null, .int 0, .int 0]) : PCl) :: new)) dX9_init_149 clX5 kl_X9_67 ki_X5 kI_X5.1.1 (fs := [.null, .int 0, .int 0, .int 0, .int 0]) (by decide +kernel) rfl (Nat.le_of_ble_eq_true rfl) (Nat.le_of_ble_eq_true rfl) ?_
  refine cw_st (st' := [.ref 73, .ref 0]) (by rw [hl]) ?_
  refine cw_dup dX9_init_152 rfl ?_
  refine cw_aload_n dX9_init_153 rfl rfl ?_
  refine cw_get (v := .ref 62) dX9_init_154 fl_X9_54 rfl rfl ?_
  have hc := m_safety (d := d + 2) ((.inl (9, [.ref 1, .ref 12, .ref 23, .ref 34, .ref 36, .ref 53, .ref 61, .ref 62, .ref 69, .null, .null, .null, .int 0, .int 0]) : PCl) :: new) 62
  rw [hl] at hc
  refine cw_callI (mi := iX5_init) (k0 := 73) (av := [.ref 62]) (st := [.ref 73, .ref 0]) dX9_init_157 ml_X9_69 kI_X5 rfl rfl rfl rfl (Nat.le_of_ble_eq_true rfl) (Nat.le_of_ble_eq_true rfl) (Nat.le_of_ble_eq_true rfl) hc ?_
  refine cw_eq (cs' := (.inl (9, [.ref 1, .ref 12, .ref 23, .ref 34, .ref 36, .ref 53, .ref 61, .ref 62, .ref 69, .null, .null, .null, .int 0, .int 0]) : PCl) :: (new ++ sfC 73 62)) rfl ?_
  refine cw_putF (t := .object "TallerWitness$SafeSearch") (q := (RX9, TX9, 14)) dX9_init_160 fl_X9_70 rfl rfl rfl (by decide +kernel) rfl (Nat.le_of_ble_eq_true rfl) (fun _ => rfl) (fun _ => rfl) ?_
  refine cw_eq (cs' := (.inl (9, [.ref 1, .ref 12, .ref 23, .ref 34, .ref 36, .ref 53, .ref 61, .ref 62, .ref 69, .ref 73, .null, .null, .int 0, .int 0]) : PCl) :: (new ++ sfC 73 62)) rfl ?_
  exact k
theorem tw_s15 {d : Nat} {new : List PCl} (hlen : new.length = 73) (k : CW RX9 cX9_init 2 (d + 4) 76 2278 twC 75 2266 178 [some (.ref 0), some (.int 2)] [] ((.inl (9, [.ref 1, .ref 12, .ref 23, .ref 34, .ref 36, .ref 53, .ref 61, .ref 62, .ref 69, .ref 73, .ref 74, .null, .int 0, .int 0]) : PCl) :: (new ++ ctC 74 62))) : CW RX9 cX9_init 2 (d + 4) 76 2278 twC 73 2261 163 [some (.ref 0), some (.int 2)] [] ((.inl (9, [.ref 1, .ref 12, .ref 23, .ref 34, .ref 36, .ref 53, .ref 61, .ref 62, .ref 69, .ref 73, .null, .null, .int 0, .int 0]) : PCl) :: new) := by
  refine cw_aload_n dX9_init_163 rfl rfl ?_
  have hl : (((.inl (9, [.ref 1, .ref 12, .ref 23, .ref 34, .ref 36, .ref 53, .ref 61, .ref 62, .ref 69, .ref 73, .null, .null, .int 0, .int 0]) : PCl) :: new)).length = 74 := by rw [List.length_cons, hlen]
  refine cw_new (cs := ((.inl (9, [.ref 1, .ref 12, .ref 23, .ref 34, .ref 36, .ref 53, .ref 61, .ref 62, .ref 69, .ref 73, .null, .null, .int 0, .int 0]) : PCl) :: new)) dX9_init_164 clX1 kl_X9_74 ki_X1 kI_X1.1.1 (fs := [.null, .null, .int 0]) (by decide +kernel) rfl (Nat.le_of_ble_eq_true rfl) (Nat.le_of_ble_eq_true rfl) ?_
  refine cw_st (st' := [.ref 74, .ref 0]) (by rw [hl]) ?_
  refine cw_dup dX9_init_167 rfl ?_
  refine cw_aload_n dX9_init_168 rfl rfl ?_
  refine cw_get (v := .ref 62) dX9_init_169 fl_X9_54 rfl rfl ?_
  have hc := m_contest (d := d + 2) ((.inl (9, [.ref 1, .ref 12, .ref 23, .ref 34, .ref 36, .ref 53, .ref 61, .ref 62, .ref 69, .ref 73, .null, .null, .int 0, .int 0]) : PCl) :: new) 62
  rw [hl] at hc
  refine cw_callI (mi := iX1_init) (k0 := 74) (av := [.ref 62]) (st := [.ref 74, .ref 0]) dX9_init_172 ml_X9_76 kI_X1 rfl rfl rfl rfl (Nat.le_of_ble_eq_true rfl) (Nat.le_of_ble_eq_true rfl) (Nat.le_of_ble_eq_true rfl) hc ?_
  refine cw_eq (cs' := (.inl (9, [.ref 1, .ref 12, .ref 23, .ref 34, .ref 36, .ref 53, .ref 61, .ref 62, .ref 69, .ref 73, .null, .null, .int 0, .int 0]) : PCl) :: (new ++ ctC 74 62)) rfl ?_
  refine cw_putF (t := .object "TallerWitness$Contest") (q := (RX9, TX9, 14)) dX9_init_175 fl_X9_77 rfl rfl rfl (by decide +kernel) rfl (Nat.le_of_ble_eq_true rfl) (fun _ => rfl) (fun _ => rfl) ?_
  refine cw_eq (cs' := (.inl (9, [.ref 1, .ref 12, .ref 23, .ref 34, .ref 36, .ref 53, .ref 61, .ref 62, .ref 69, .ref 73, .ref 74, .null, .int 0, .int 0]) : PCl) :: (new ++ ctC 74 62)) rfl ?_
  exact k
theorem tw_s16 {d : Nat} {new : List PCl} (hlen : new.length = 75) (k : CW RX9 cX9_init 2 (d + 4) 76 2278 twC 76 2278 186 [some (.ref 0), some (.int 2)] [] ((.inl (9, [.ref 1, .ref 12, .ref 23, .ref 34, .ref 36, .ref 53, .ref 61, .ref 62, .ref 69, .ref 73, .ref 74, .ref 76, .int 0, .int 0]) : PCl) :: (new ++ [.inr (.inl (false, 12))]))) : CW RX9 cX9_init 2 (d + 4) 76 2278 twC 75 2266 178 [some (.ref 0), some (.int 2)] [] ((.inl (9, [.ref 1, .ref 12, .ref 23, .ref 34, .ref 36, .ref 53, .ref 61, .ref 62, .ref 69, .ref 73, .ref 74, .null, .int 0, .int 0]) : PCl) :: new) := by
  refine cw_aload_n dX9_init_178 rfl rfl ?_
  refine cw_bipush (v := 12) dX9_init_179 (by decide) ?_
  have hl : (((.inl (9, [.ref 1, .ref 12, .ref 23, .ref 34, .ref 36, .ref 53, .ref 61, .ref 62, .ref 69, .ref 73, .ref 74, .null, .int 0, .int 0]) : PCl) :: new)).length = 76 := by rw [List.length_cons, hlen]
  refine cw_newa (cs := ((.inl (9, [.ref 1, .ref 12, .ref 23, .ref 34, .ref 36, .ref 53, .ref 61, .ref 62, .ref 69, .ref 73, .ref 74, .null, .int 0, .int 0]) : PCl) :: new)) (b := false) (N := 12) dX9_init_181 ac_i (Or.inl ⟨rfl, rfl⟩) (by decide) rfl (by decide) (Nat.le_of_ble_eq_true rfl) (Nat.le_of_ble_eq_true rfl) ?_
  refine cw_eq (cs' := (.inl (9, [.ref 1, .ref 12, .ref 23, .ref 34, .ref 36, .ref 53, .ref 61, .ref 62, .ref 69, .ref 73, .ref 74, .null, .int 0, .int 0]) : PCl) :: (new ++ [.inr (.inl (false, 12))])) rfl ?_
  refine cw_st (st' := [.ref 76, .ref 0]) (by rw [hl]) ?_
  refine cw_putF (t := .array .int) (q := (RX9, TX9, 14)) dX9_init_183 fl_X9_81 rfl rfl rfl (by decide +kernel) rfl (Nat.le_of_ble_eq_true rfl) (fun _ => rfl) (fun _ => rfl) ?_
  refine cw_eq (cs' := (.inl (9, [.ref 1, .ref 12, .ref 23, .ref 34, .ref 36, .ref 53, .ref 61, .ref 62, .ref 69, .ref 73, .ref 74, .ref 76, .int 0, .int 0]) : PCl) :: (new ++ [.inr (.inl (false, 12))])) rfl ?_
  exact k
