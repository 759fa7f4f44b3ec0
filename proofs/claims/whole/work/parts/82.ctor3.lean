/-! the constructor of the class: the stages in a row -/
theorem nww7 : nw7[35]? = some (.inr (.inr [some 37, some 45])) := by
  rw [nw7, List.getElem?_append_left (by rw [List.length_append, nwl4]; show 35 < 35 + _; exact Nat.lt_add_of_pos_right (Nat.succ_pos _)), List.getElem?_append_right (by rw [nwl4]; omega), nwl4]; rfl
theorem nww8 : nw8[35]? = some (.inr (.inr [some 37, some 45])) := by
  rw [nw8, List.getElem?_append_left (by rw [nwl7]; omega)]; exact nww7
theorem nww9 : nw9[35]? = some (.inr (.inr [some 37, some 45])) := by
  rw [nw9, List.getElem?_append_left (by rw [nwl8]; omega)]; exact nww8
theorem nww10 : nw10[35]? = some (.inr (.inr [some 37, some 45])) := by
  rw [nw10, List.getElem?_append_left (by rw [nwl9]; omega)]; exact nww9
theorem nww11 : nw11[35]? = some (.inr (.inr [some 37, some 45])) := by
  rw [nw11, List.getElem?_append_left (by rw [nwl10]; omega)]; exact nww10
theorem nww12 : nw12[35]? = some (.inr (.inr [some 37, some 45])) := by
  rw [nw12, List.getElem?_append_left (by rw [nwl11]; omega)]; exact nww11
theorem nww13 : nw13[35]? = some (.inr (.inr [some 37, some 45])) := by
  rw [nw13, List.getElem?_append_left (by rw [nwl12]; omega)]; exact nww12
theorem nww14 : nw14[35]? = some (.inr (.inr [some 37, some 45])) := by
  rw [nw14, List.getElem?_append_left (by rw [nwl13]; omega)]; exact nww13
theorem tw_c17 {d : Nat} : CW RX9 cX9_init 2 (d + 4) 76 2278 twC 76 2278 186 [some (.ref 0), some (.int 2)] [] ((.inl (9, [.ref 1, .ref 12, .ref 23, .ref 34, .ref 36, .ref 53, .ref 61, .ref 62, .ref 69, .ref 73, .ref 74, .ref 76, .int 0, .int 0]) : PCl) :: nw14) := cw_ret dX9_init_186 rfl rfl rfl
theorem tw_c16 {d : Nat} : CW RX9 cX9_init 2 (d + 4) 76 2278 twC 75 2266 178 [some (.ref 0), some (.int 2)] [] ((.inl (9, [.ref 1, .ref 12, .ref 23, .ref 34, .ref 36, .ref 53, .ref 61, .ref 62, .ref 69, .ref 73, .ref 74, .null, .int 0, .int 0]) : PCl) :: nw13) := tw_s16 (new := nw13) nwl13 tw_c17
theorem tw_c15 {d : Nat} : CW RX9 cX9_init 2 (d + 4) 76 2278 twC 73 2261 163 [some (.ref 0), some (.int 2)] [] ((.inl (9, [.ref 1, .ref 12, .ref 23, .ref 34, .ref 36, .ref 53, .ref 61, .ref 62, .ref 69, .ref 73, .null, .null, .int 0, .int 0]) : PCl) :: nw12) := tw_s15 (new := nw12) nwl12 tw_c16
theorem tw_c14 {d : Nat} : CW RX9 cX9_init 2 (d + 4) 76 2278 twC 72 2256 148 [some (.ref 0), some (.int 2)] [] ((.inl (9, [.ref 1, .ref 12, .ref 23, .ref 34, .ref 36, .ref 53, .ref 61, .ref 62, .ref 69, .null, .null, .null, .int 0, .int 0]) : PCl) :: nw11) := tw_s14 (new := nw11) nwl11 tw_c15
theorem tw_c13 {d : Nat} : CW RX9 cX9_init 2 (d + 4) 76 2278 twC 68 2203 133 [some (.ref 0), some (.int 2)] [] ((.inl (9, [.ref 1, .ref 12, .ref 23, .ref 34, .ref 36, .ref 53, .ref 61, .ref 62, .null, .null, .null, .null, .int 0, .int 0]) : PCl) :: nw10) := tw_s13 (new := nw10) nwl10 tw_c14
theorem tw_c12 {d : Nat} : CW RX9 cX9_init 2 (d + 4) 76 2278 twC 61 1877 112 [some (.ref 0), some (.int 2)] [] ((.inl (9, [.ref 1, .ref 12, .ref 23, .ref 34, .ref 36, .ref 53, .ref 61, .null, .null, .null, .null, .null, .int 0, .int 0]) : PCl) :: nw9) := tw_s12 (new := nw9) nwl9 nww9 tw_c13
theorem tw_c11 {d : Nat} : CW RX9 cX9_init 2 (d + 4) 76 2278 twC 60 1872 93 [some (.ref 0), some (.int 2)] [] ((.inl (9, [.ref 1, .ref 12, .ref 23, .ref 34, .ref 36, .ref 53, .null, .null, .null, .null, .null, .null, .int 0, .int 0]) : PCl) :: nw8) := tw_s11 (new := nw8) nwl8 tw_c12
theorem tw_c10 {d : Nat} : CW RX9 cX9_init 2 (d + 4) 76 2278 twC 52 1463 82 [some (.ref 0), some (.int 2)] [] ((.inl (9, [.ref 1, .ref 12, .ref 23, .ref 34, .ref 36, .null, .null, .null, .null, .null, .null, .null, .int 0, .int 0]) : PCl) :: nw7) := tw_s10 (new := nw7) nwl7 tw_c11
theorem tw_c9 {d : Nat} : CW RX9 cX9_init 2 (d + 4) 76 2278 twC 52 1463 58 [some (.ref 0), some (.int 2)] [] ((.inl (9, [.ref 1, .ref 12, .ref 23, .ref 34, .ref 36, .null, .null, .null, .null, .null, .null, .null, .int 0, .int 0]) : PCl) :: nw7) := tw_s9 (new := nw7) nwl7 tw_c10
theorem tw_c8 {d : Nat} : CW RX9 cX9_init 2 (d + 4) 76 2278 twC 44 1054 58 [some (.ref 0), some (.int 1)] [] ((.inl (9, [.ref 1, .ref 12, .ref 23, .ref 34, .ref 36, .null, .null, .null, .null, .null, .null, .null, .int 0, .int 0]) : PCl) :: nw6) := by
  refine cw_eq (cs' := _ :: (nw4 ++ (.inr (.inr [some 37, none]) :: lwC 37))) (congrArg _ (List.append_assoc nw4 [.inr (.inr [some 37, none])] (lwC 37))) ?_
  exact tw_s8 (nA := nw4) (nB := lwC 37) nwl4 (by rw [List.length_append, nwl4]; rfl) tw_c9
theorem tw_c7 {d : Nat} : CW RX9 cX9_init 2 (d + 4) 76 2278 twC 36 645 58 [some (.ref 0), some (.int 0)] [] ((.inl (9, [.ref 1, .ref 12, .ref 23, .ref 34, .ref 36, .null, .null, .null, .null, .null, .null, .null, .int 0, .int 0]) : PCl) :: nw5) := by
  refine cw_eq (cs' := _ :: (nw4 ++ (.inr (.inr [none, none]) :: []))) rfl ?_
  exact tw_s7 (nA := nw4) (nB := []) nwl4 (by rw [List.length_append, nwl4]; rfl) tw_c8
theorem tw_c6 {d : Nat} : CW RX9 cX9_init 2 (d + 4) 76 2278 twC 36 645 56 [some (.ref 0), none] [] ((.inl (9, [.ref 1, .ref 12, .ref 23, .ref 34, .ref 36, .null, .null, .null, .null, .null, .null, .null, .int 0, .int 0]) : PCl) :: nw5) := tw_s6 (new := nw5) nwl5 tw_c7
theorem tw_c5 {d : Nat} : CW RX9 cX9_init 2 (d + 4) 76 2278 twC 35 643 48 [some (.ref 0), none] [] ((.inl (9, [.ref 1, .ref 12, .ref 23, .ref 34, .null, .null, .null, .null, .null, .null, .null, .null, .int 0, .int 0]) : PCl) :: nw4) := tw_s5 (new := nw4) nwl4 tw_c6
theorem tw_c4 {d : Nat} : CW RX9 cX9_init 2 (d + 4) 76 2278 twC 33 441 37 [some (.ref 0), none] [] ((.inl (9, [.ref 1, .ref 12, .ref 23, .null, .null, .null, .null, .null, .null, .null, .null, .null, .int 0, .int 0]) : PCl) :: nw3) := tw_s4 (new := nw3) nwl3 tw_c5
theorem tw_c3 {d : Nat} : CW RX9 cX9_init 2 (d + 4) 76 2278 twC 22 294 26 [some (.ref 0), none] [] ((.inl (9, [.ref 1, .ref 12, .null, .null, .null, .null, .null, .null, .null, .null, .null, .null, .int 0, .int 0]) : PCl) :: nw2) := tw_s3 (new := nw2) nwl2 tw_c4
theorem tw_c2 {d : Nat} : CW RX9 cX9_init 2 (d + 4) 76 2278 twC 11 147 15 [some (.ref 0), none] [] ((.inl (9, [.ref 1, .null, .null, .null, .null, .null, .null, .null, .null, .null, .null, .null, .int 0, .int 0]) : PCl) :: nw1) := tw_s2 (new := nw1) nwl1 tw_c3
theorem tw_c1 {d : Nat} : CW RX9 cX9_init 2 (d + 4) 76 2278 twC 0 0 4 [some (.ref 0), none] [] ((.inl (9, [.null, .null, .null, .null, .null, .null, .null, .null, .null, .null, .null, .null, .int 0, .int 0]) : PCl) :: nw0) := tw_s1 (new := nw0) nwl0 tw_c2
theorem tw_c0 {d : Nat} : CW RX9 cX9_init 2 (d + 4) 76 2278 twC 0 0 0 [some (.ref 0), none] [] ((.inl (9, [.null, .null, .null, .null, .null, .null, .null, .null, .null, .null, .null, .null, .int 0, .int 0]) : PCl) :: nw0) := tw_s0 (new := nw0) nwl0 tw_c1
theorem m_tw {d : Nat} : CMt (d + 4) iX9_init [.ref 0] [.inl (9, [.null, .null, .null, .null, .null, .null, .null, .null, .null, .null, .null, .null, .int 0, .int 0])] 76 2278 twC := by
  refine CMt.of (by decide) rfl rfl rfl rfl ?_
  exact tw_c0
