/-! KEEP, COUNT -/
def keepS (S : SS) : SS := setS (setS S 1 (S 0)) 4 (wrN (S 4) 0 0 1)
theorem keep_wf {S : SS} (h : WF S) : WF (keepS S) := by
  obtain ⟨h1, h2, h3, h4, h5, h6, h7, h8, h9⟩ := h
  refine ⟨h1, ?_, fun _ => h1, h4, h5, h6, h7, h8, h9⟩
  show wrN (S 4) 0 0 1 0 0 ≤ 1
  rw [wrN_same]
  exact Nat.le_refl _
theorem op_keep {S : SS} (hW : WF S) : Op S iX9_keep iX10_keep [] := by
  have hs := hW.1
  obtain ⟨n, n1, n2⟩ := HO_set (S 0) (S 2) hs
  refine ⟨nI (cnt n), keepS S, keep_wf hW, fun M h => ?_, fun M h => ?_⟩
  · refine eX9_keep M (bX9_keep_0 M ((c_copy_12 (d := 58) h.1).mono (fun M1 h1 => ?_)))
    have g : ∀ k, (k < 12 ∨ 19 < k) → k ≠ 0 → wr M1 0 13 1 k = M k := fun k q1 q2 => (wr_row q2).trans (h1.2 k q1)
    have g0 : ∀ j, j ≠ 13 → wr M1 0 13 1 0 j = M 0 j := fun j hj => by rw [wr_el hj, h1.2 0 (by omega)]
    have h' : RC (wr M1 0 13 1) (keepS S) := by
      refine ⟨h.1.cg (g 1 (by omega) (by omega)) (fun r q1 q2 => g _ (by omega) (by omega)), ⟨wr_same _ _ _ _, fun _ => VC.cg (v := 12) h1.1 (wr_row (by omega)) (fun r q1 q2 => wr_row (by omega))⟩, ?_, ?_, h.l0.cg (fun r q => g _ (by omega) (by omega)), h.l1.cg (fun r q => g _ (by omega) (by omega)), h.2.2.2.2.2.2.cg (g 11 (by omega) (by omega)) (g 22 (by omega) (by omega)) (g 33 (by omega) (by omega))⟩
      · have t := h.2.2.1
        exact ⟨by rw [g 34 (by omega) (by omega)]; exact t.1, by rw [g 35 (by omega) (by omega)]; exact t.2⟩
      · have t := h.2.2.2.1
        exact ⟨by rw [g0 12 (by omega)]; exact t.1, by rw [g 76 (by omega) (by omega)]; exact t.2⟩
    refine (c_heldByC (d := 54) vS_1 aS_37 hs hW.l0 h'.1 h'.l0 n2).mono (fun r M2 h2 => ?_)
    obtain ⟨rfl, f⟩ := h2
    rw [bc_nI (by omega)]
    refine ⟨_, rfl, rfl, fun k hk => ?_, h'.sf aS_37 f⟩
    rw [f.high aS_37 k hk, g k (by omega) (by omega)]
  · refine eX10_keep M (bX10_keep_0 M ?_)
    refine c_copies (n := 16) (by decide) ce_78 (by decide) ce_111 (by decide) (by decide) (by decide) (by decide) (by decide) ?_
    refine c_copies (n := 16) (by decide) ce_79 (by decide) ce_112 (by decide) (by decide) (by decide) (by decide) (by decide) ?_
    refine c_copies (n := 16) (by decide) ce_80 (by decide) ce_113 (by decide) (by decide) (by decide) (by decide) (by decide) ?_
    refine c_copies (n := 16) (by decide) ce_81 (by decide) ce_114 (by decide) (by decide) (by decide) (by decide) (by decide) ?_
    refine c_copies (n := 16) (by decide) ce_82 (by decide) ce_115 (by decide) (by decide) (by decide) (by decide) (by decide) ?_
    refine c_copies (n := 12) (by decide) ce_99 (by decide) ce_116 (by decide) (by decide) (by decide) (by decide) (by decide) ?_
    refine c_copies (n := 12) (by decide) ce_100 (by decide) ce_117 (by decide) (by decide) (by decide) (by decide) (by decide) ?_
    refine c_copies (n := 12) (by decide) ce_101 (by decide) ce_118 (by decide) (by decide) (by decide) (by decide) (by decide) ?_
    generalize hX : cp (cp (cp (cp (cp (cp (cp (cp (wr (wr (wr (wr (wr (wr M 77 52 1) 77 53 (M 77 0)) 77 54 (M 77 1)) 77 55 (M 77 2)) 77 56 (M 77 3)) 77 57 (M 77 34)) 111 78 16) 112 79 16) 113 80 16) 114 81 16) 115 82 16) 116 99 12) 117 100 12) 118 101 12 = X
    have g : Fr 77 [111, 112, 113, 114, 115, 116, 117, 118] [52, 53, 54, 55, 56, 57] M X := by
      rw [← hX]
      refine ⟨fun k hk ho => ?_, fun j hj => ?_⟩
      · simp at hk
        rw [cp_row (by omega), cp_row (by omega), cp_row (by omega), cp_row (by omega), cp_row (by omega), cp_row (by omega), cp_row (by omega), cp_row (by omega), wr_row ho, wr_row ho, wr_row ho, wr_row ho, wr_row ho, wr_row ho]
      · simp at hj
        rw [cp_row (by decide), cp_row (by decide), cp_row (by decide), cp_row (by decide), cp_row (by decide), cp_row (by decide), cp_row (by decide), cp_row (by decide), wr_el (by omega), wr_el (by omega), wr_el (by omega), wr_el (by omega), wr_el (by omega), wr_el (by omega)]
    have q : VK X (S 0) := by
      rw [← hX]
      refine VRel.copy h.1 (case5 ?_ ?_ ?_ ?_ ?_) (case7 ?_ ?_ ?_ ?_ ?_ ?_ ?_)
      · simp [wr, cp, va_up, upd, slM, slK]
      · simp [wr, cp, va_up, upd, slM, slK]
      · simp [wr, cp, va_up, upd, slM, slK]
      · simp [wr, cp, va_up, upd, slM, slK]
      · simp [wr, cp, va_up, upd, slM, slK]
      all_goals
        intro j hj
        simp only [rl] at hj
        simp at hj
        simp [wr, cp, va_up, upd, va_cpy, hj, rowM, rowK]
    have e52 : X 77 52 = 1 := by
      rw [← hX]
      simp [wr, cp, va_up, upd]
    have h' : RM X (keepS S) := ⟨h.1.fr g rfl rfl, ⟨e52, fun _ => q⟩, h.2.2.1.fr g rfl rfl, h.2.2.2.1.fr g rfl rfl, h.l0.fr g rfl, h.l1.fr g rfl⟩
    refine (c_holding (d := 54) (w := 0) hs hW.l0 h'.1 (by omega) h'.l0 n2).mono (fun r M2 h2 => ?_)
    obtain ⟨rfl, f⟩ := h2
    rw [bits_nI (by omega)]
    exact ⟨_, rfl, rfl, (g.low (by decide)).tr (low_98 f), h'.off f⟩
section CB
variable {A B : Prop} {x : Int32}
theorem bq_isP (n k : Nat) (hn : n < 2 ^ 31) (hk : k < 2 ^ 31) (hx : x = nI k) (f : n ≤ k → A) (g : k < n → B) : (isPV (nI n) x = 0 → A) ∧ (¬ isPV (nI n) x = 0 → B) := by
  subst hx
  refine ⟨fun z => f ?_, fun z => g ?_⟩
  · have := isPV_0.mp z
    exact Nat.le_of_not_lt (fun q => this ⟨nI_pos' hk, nI_lt q hn⟩)
  · exact (nI_ltI hk hn).mp (isPV_1.mp z).2
theorem bq_in (a b k : Nat) (ha : a < 2 ^ 31) (hb : b < 2 ^ 31) (hk : k < 2 ^ 31) {y z : Int32} (hx : x = nI k) (hy : y = nI a) (hz : z = nI b) (f : ¬ (a ≤ k ∧ k ≤ b) → A) (g : a ≤ k ∧ k ≤ b → B) : (inV x y z = 0 → A) ∧ (¬ inV x y z = 0 → B) := by
  subst hx hy hz
  refine ⟨fun q => f (fun w => inV_0.mp q ⟨(nI_leI ha hk).mpr w.1, (nI_leI hk hb).mpr w.2⟩), fun q => g ?_⟩
  have := inV_1.mp q
  exact ⟨(nI_leI ha hk).mp this.1, (nI_leI hk hb).mp this.2⟩
end CB
def cntV (S : SS) (n k : Nat) : Int32 :=
  if k = 0 then nI (S 0 0 0) else if k = 1 then nI (S 0 0 2) else if k = 2 then nI (S 2 0 0) else if k = 3 then nI (S 3 0 0) else if k = 4 then nI (S 4 0 1) else if k = 5 then nI (S 0 0 3) else if k = 6 then nI (S 0 0 4) else if k = 7 then nI (S 4 0 2) else if k = 8 then nI (S 0 0 1) else nI n
theorem c_countWhole {d k n : Nat} {M : Mem} {S : SS} (hW : WF S) (h : RC M S) (hk : k < 10) (hn : Is n (HO (S 0) (S 2))) : AMi (d + 6) iX9_countWhole [.ref 0, .int (nI k)] M (fun r M' => r = cntV S n k ∧ SF 37 M M') := by
  have e0 : M 1 7 = nI (S 0 0 0) := h.1.1 0 (by decide)
  have e1 : M 1 9 = nI (S 0 0 2) := h.1.1 2 (by decide)
  have e2 : M 37 0 = nI (S 2 0 0) := h.l0.1
  have e3 : M 45 0 = nI (S 3 0 0) := h.l1.1
  have e4 : M 34 1 = nI (S 4 0 1) := h.2.2.1.1
  have e5 : M 1 10 = nI (S 0 0 3) := h.1.1 3 (by decide)
  have e6 : M 1 11 = nI (S 0 0 4) := h.1.1 4 (by decide)
  have e7 : M 0 12 = nI (S 4 0 2) := h.2.2.2.1.1
  have e8 : M 1 8 = nI (S 0 0 1) := h.1.1 1 (by decide)
  refine eX9_countWhole M _ (bX9_countWhole_0 M _ ?_)
  rw [e0, e1, e2, e3, e4, e5, e6, e7, e8]
  match k, hk with
  | 0, _ => exact ⟨fun z => absurd z (by decide), fun _ => ⟨_, rfl, rfl, SF.rf⟩, fun z => absurd z (by decide), fun z => absurd z (by decide), fun z => absurd z (by decide), fun z => absurd z (by decide), fun z => absurd z (by decide), fun z => absurd z (by decide), fun z => absurd z (by decide), fun z => absurd z (by decide), fun z => absurd z (by decide)⟩
  | 1, _ => exact ⟨fun z => absurd z (by decide), fun z => absurd z (by decide), fun _ => ⟨_, rfl, rfl, SF.rf⟩, fun z => absurd z (by decide), fun z => absurd z (by decide), fun z => absurd z (by decide), fun z => absurd z (by decide), fun z => absurd z (by decide), fun z => absurd z (by decide), fun z => absurd z (by decide), fun z => absurd z (by decide)⟩
  | 2, _ => exact ⟨fun z => absurd z (by decide), fun z => absurd z (by decide), fun z => absurd z (by decide), fun _ => ⟨_, rfl, rfl, SF.rf⟩, fun z => absurd z (by decide), fun z => absurd z (by decide), fun z => absurd z (by decide), fun z => absurd z (by decide), fun z => absurd z (by decide), fun z => absurd z (by decide), fun z => absurd z (by decide)⟩
  | 3, _ => exact ⟨fun z => absurd z (by decide), fun z => absurd z (by decide), fun z => absurd z (by decide), fun z => absurd z (by decide), fun _ => ⟨_, rfl, rfl, SF.rf⟩, fun z => absurd z (by decide), fun z => absurd z (by decide), fun z => absurd z (by decide), fun z => absurd z (by decide), fun z => absurd z (by decide), fun z => absurd z (by decide)⟩
  | 4, _ => exact ⟨fun z => absurd z (by decide), fun z => absurd z (by decide), fun z => absurd z (by decide), fun z => absurd z (by decide), fun z => absurd z (by decide), fun _ => ⟨_, rfl, rfl, SF.rf⟩, fun z => absurd z (by decide), fun z => absurd z (by decide), fun z => absurd z (by decide), fun z => absurd z (by decide), fun z => absurd z (by decide)⟩
  | 5, _ => exact ⟨fun z => absurd z (by decide), fun z => absurd z (by decide), fun z => absurd z (by decide), fun z => absurd z (by decide), fun z => absurd z (by decide), fun z => absurd z (by decide), fun _ => ⟨_, rfl, rfl, SF.rf⟩, fun z => absurd z (by decide), fun z => absurd z (by decide), fun z => absurd z (by decide), fun z => absurd z (by decide)⟩
  | 6, _ => exact ⟨fun z => absurd z (by decide), fun z => absurd z (by decide), fun z => absurd z (by decide), fun z => absurd z (by decide), fun z => absurd z (by decide), fun z => absurd z (by decide), fun z => absurd z (by decide), fun _ => ⟨_, rfl, rfl, SF.rf⟩, fun z => absurd z (by decide), fun z => absurd z (by decide), fun z => absurd z (by decide)⟩
  | 7, _ => exact ⟨fun z => absurd z (by decide), fun z => absurd z (by decide), fun z => absurd z (by decide), fun z => absurd z (by decide), fun z => absurd z (by decide), fun z => absurd z (by decide), fun z => absurd z (by decide), fun z => absurd z (by decide), fun _ => ⟨_, rfl, rfl, SF.rf⟩, fun z => absurd z (by decide), fun z => absurd z (by decide)⟩
  | 8, _ => exact ⟨fun z => absurd z (by decide), fun z => absurd z (by decide), fun z => absurd z (by decide), fun z => absurd z (by decide), fun z => absurd z (by decide), fun z => absurd z (by decide), fun z => absurd z (by decide), fun z => absurd z (by decide), fun z => absurd z (by decide), fun _ => ⟨_, rfl, rfl, SF.rf⟩, fun z => absurd z (by decide)⟩
  | 9, _ => exact ⟨fun z => absurd z (by decide), fun z => absurd z (by decide), fun z => absurd z (by decide), fun z => absurd z (by decide), fun z => absurd z (by decide), fun z => absurd z (by decide), fun z => absurd z (by decide), fun z => absurd z (by decide), fun z => absurd z (by decide), fun z => absurd z (by decide), fun _ => (c_heldByC vS_1 aS_37 hW.1 hW.l0 h.1 h.l0 hn).mono (fun r M1 h1 => ⟨_, rfl, h1.1, h1.2⟩)⟩
  | k + 10, h => omega
theorem c_countM {d k n : Nat} {M : Mem} {S : SS} (hW : WF S) (h : RM M S) (hk : k < 10) (hn : Is n (HO (S 0) (S 2))) : AMi (d + 6) iX10_count [.ref 77, .int (nI k)] M (fun r M' => r = cntV S n k ∧ ∀ k, k ≠ 96 → k ≠ 97 → k ≠ 98 → M' k = M k) := by
  have e0 : M 77 0 = nI (S 0 0 0) := h.1.1 0 (by decide)
  have e1 : M 77 34 = nI (S 0 0 2) := h.1.1 2 (by decide)
  have e2 : M 91 0 = nI (S 2 0 0) := h.l0.1
  have e3 : M 91 1 = nI (S 3 0 0) := h.l1.1
  have e4 : M 77 10 = nI (S 4 0 1) := h.2.2.1.1
  have e5 : M 77 2 = nI (S 0 0 3) := h.1.1 3 (by decide)
  have e6 : M 77 3 = nI (S 0 0 4) := h.1.1 4 (by decide)
  have e7 : M 77 50 = nI (S 4 0 2) := h.2.2.2.1.1
  have e8 : M 77 1 = nI (S 0 0 1) := h.1.1 1 (by decide)
  refine eX10_count M _ (bX10_count_0 M _ ?_)
  rw [e0, e1, e2, e3, e4, e5, e6, e7, e8]
  match k, hk with
  | 0, _ => exact ⟨fun z => absurd z (by decide), fun _ => ⟨_, rfl, rfl, fun _ _ _ _ => rfl⟩, fun z => absurd z (by decide), fun z => absurd z (by decide), fun z => absurd z (by decide), fun z => absurd z (by decide), fun z => absurd z (by decide), fun z => absurd z (by decide), fun z => absurd z (by decide), fun z => absurd z (by decide), fun z => absurd z (by decide)⟩
  | 1, _ => exact ⟨fun z => absurd z (by decide), fun z => absurd z (by decide), fun _ => ⟨_, rfl, rfl, fun _ _ _ _ => rfl⟩, fun z => absurd z (by decide), fun z => absurd z (by decide), fun z => absurd z (by decide), fun z => absurd z (by decide), fun z => absurd z (by decide), fun z => absurd z (by decide), fun z => absurd z (by decide), fun z => absurd z (by decide)⟩
  | 2, _ => exact ⟨fun z => absurd z (by decide), fun z => absurd z (by decide), fun z => absurd z (by decide), fun _ => ⟨_, rfl, rfl, fun _ _ _ _ => rfl⟩, fun z => absurd z (by decide), fun z => absurd z (by decide), fun z => absurd z (by decide), fun z => absurd z (by decide), fun z => absurd z (by decide), fun z => absurd z (by decide), fun z => absurd z (by decide)⟩
  | 3, _ => exact ⟨fun z => absurd z (by decide), fun z => absurd z (by decide), fun z => absurd z (by decide), fun z => absurd z (by decide), fun _ => ⟨_, rfl, rfl, fun _ _ _ _ => rfl⟩, fun z => absurd z (by decide), fun z => absurd z (by decide), fun z => absurd z (by decide), fun z => absurd z (by decide), fun z => absurd z (by decide), fun z => absurd z (by decide)⟩
  | 4, _ => exact ⟨fun z => absurd z (by decide), fun z => absurd z (by decide), fun z => absurd z (by decide), fun z => absurd z (by decide), fun z => absurd z (by decide), fun _ => ⟨_, rfl, rfl, fun _ _ _ _ => rfl⟩, fun z => absurd z (by decide), fun z => absurd z (by decide), fun z => absurd z (by decide), fun z => absurd z (by decide), fun z => absurd z (by decide)⟩
  | 5, _ => exact ⟨fun z => absurd z (by decide), fun z => absurd z (by decide), fun z => absurd z (by decide), fun z => absurd z (by decide), fun z => absurd z (by decide), fun z => absurd z (by decide), fun _ => ⟨_, rfl, rfl, fun _ _ _ _ => rfl⟩, fun z => absurd z (by decide), fun z => absurd z (by decide), fun z => absurd z (by decide), fun z => absurd z (by decide)⟩
  | 6, _ => exact ⟨fun z => absurd z (by decide), fun z => absurd z (by decide), fun z => absurd z (by decide), fun z => absurd z (by decide), fun z => absurd z (by decide), fun z => absurd z (by decide), fun z => absurd z (by decide), fun _ => ⟨_, rfl, rfl, fun _ _ _ _ => rfl⟩, fun z => absurd z (by decide), fun z => absurd z (by decide), fun z => absurd z (by decide)⟩
  | 7, _ => exact ⟨fun z => absurd z (by decide), fun z => absurd z (by decide), fun z => absurd z (by decide), fun z => absurd z (by decide), fun z => absurd z (by decide), fun z => absurd z (by decide), fun z => absurd z (by decide), fun z => absurd z (by decide), fun _ => ⟨_, rfl, rfl, fun _ _ _ _ => rfl⟩, fun z => absurd z (by decide), fun z => absurd z (by decide)⟩
  | 8, _ => exact ⟨fun z => absurd z (by decide), fun z => absurd z (by decide), fun z => absurd z (by decide), fun z => absurd z (by decide), fun z => absurd z (by decide), fun z => absurd z (by decide), fun z => absurd z (by decide), fun z => absurd z (by decide), fun z => absurd z (by decide), fun _ => ⟨_, rfl, rfl, fun _ _ _ _ => rfl⟩, fun z => absurd z (by decide)⟩
  | 9, _ => exact ⟨fun z => absurd z (by decide), fun z => absurd z (by decide), fun z => absurd z (by decide), fun z => absurd z (by decide), fun z => absurd z (by decide), fun z => absurd z (by decide), fun z => absurd z (by decide), fun z => absurd z (by decide), fun z => absurd z (by decide), fun z => absurd z (by decide), fun _ => (c_holding (w := 0) hW.1 hW.l0 h.1 (by omega) h.l0 hn).mono (fun r M1 h1 => ⟨_, rfl, h1.1, h1.2⟩)⟩
  | k + 10, h => omega
/-- what there is beyond the first ten -/
def cntW (s : VD) (k : Nat) : Int32 := if 20 ≤ k ∧ k < 20 + s 0 2 then nI (s 7 (k - 20)) else if 40 ≤ k ∧ k < 40 + s 0 0 then nI (s 3 (k - 40)) else if 60 ≤ k ∧ k < 60 + s 0 0 then nI (s 2 (k - 60)) else -1
theorem op_count {S : SS} (hW : WF S) (x1 : Int32) : Op S iX9_count iX10_count [.int x1] := by
  have hs := hW.1
  have hn := hs.1
  have hO := hs.2.2.1
  by_cases c1 : x1 < 0
  · have c2 : ∀ a : Nat, a < 2 ^ 31 → x1 < nI a := fun a ha => Int32.lt_of_lt_of_le c1 (nI_pos' ha)
    have c3 : ∀ a : Nat, a < 2 ^ 31 → ¬ nI a ≤ x1 := fun a ha => Int32.not_le.mpr (c2 a ha)
    have ct : Int32.toInt x1 < 0 := Int32.lt_iff_toInt_lt.mp c1
    have nz : ∀ a : Nat, a < 2 ^ 31 → ¬ x1 = nI a := fun a ha e => by have := c2 a ha; rw [e] at this; exact Int32.lt_irrefl this
    refine ⟨-1, S, hW, fun M h => ?_, fun M h => ?_⟩
    · refine eX9_count M _ (bX9_count_0 M _ ⟨fun _ => ⟨fun _ => ⟨fun _ => ?_, fun z => absurd (c2 20 (by omega)) z⟩, fun z => absurd (c2 40 (by omega)) z⟩, fun z => absurd (c2 60 (by omega)) z⟩)
      exact eX9_countWhole M _ (bX9_countWhole_0 (d := 58) M _ ⟨fun _ => ⟨_, rfl, _, rfl, rfl, FrM.rf M, h⟩, fun z => absurd z (nz 0 (by omega)), fun z => absurd z (nz 1 (by omega)), fun z => absurd z (nz 2 (by omega)), fun z => absurd z (nz 3 (by omega)), fun z => absurd z (nz 4 (by omega)), fun z => absurd z (nz 5 (by omega)), fun z => absurd z (nz 6 (by omega)), fun z => absurd z (nz 7 (by omega)), fun z => absurd z (nz 8 (by omega)), fun z => absurd z (nz 9 (by omega))⟩)
    · exact eX10_count M _ (bX10_count_0 M _ ⟨fun _ => ⟨fun _ => ⟨fun _ => ⟨fun _ => ⟨_, rfl, rfl, FrC.rf M, h⟩, fun z => absurd (inV_1.mp z).1 (c3 60 (by omega))⟩, fun z => absurd (inV_1.mp z).1 (c3 40 (by omega))⟩, fun z => absurd (inV_1.mp z).1 (c3 20 (by omega))⟩, fun z => absurd z (nz 0 (by omega)), fun z => absurd z (nz 1 (by omega)), fun z => absurd z (nz 2 (by omega)), fun z => absurd z (nz 3 (by omega)), fun z => absurd z (nz 4 (by omega)), fun z => absurd z (nz 5 (by omega)), fun z => absurd z (nz 6 (by omega)), fun z => absurd z (nz 7 (by omega)), fun z => absurd z (nz 8 (by omega)), fun z => absurd z (nz 9 (by omega))⟩)
  · obtain ⟨k, hk, rfl⟩ := nI_of c1
    by_cases c2 : k < 10
    · obtain ⟨n, n1, n2⟩ := HO_set (S 0) (S 2) hs
      refine ⟨cntV S n k, S, hW, fun M h => ?_, fun M h => ?_⟩
      · refine eX9_count M _ (bX9_count_0 M _ ⟨fun _ => ⟨fun _ => ⟨fun _ => ?_, fun z => absurd (nI_lt (b := 20) (by omega) (by omega)) z⟩, fun z => absurd (nI_lt (b := 40) (by omega) (by omega)) z⟩, fun z => absurd (nI_lt (b := 60) (by omega) (by omega)) z⟩)
        refine (c_countWhole (d := 53) hW h c2 n2).mono (fun r M1 h1 => ?_)
        exact ⟨_, rfl, h1.1, h1.2.high aS_37, h.sf aS_37 h1.2⟩
      · exact (c_countM (d := 54) hW h c2 n2).mono (fun r M1 h1 => ⟨h1.1, low_98 h1.2, h.off h1.2⟩)
    · have nz : ∀ a : Nat, a < 10 → ¬ nI k = nI a := fun a ha e => by have := (nI_inj32 (by omega) (by omega)).mp e; omega
      have ti : 9 < Int32.toInt (nI k) := by rw [nI_toInt hk]; omega
      refine ⟨cntW (S 0) k, S, hW, fun M h => ?_, fun M h => ?_⟩
      · have e0 : M 1 7 = nI (S 0 0 0) := h.1.1 0 (by decide)
        have e1 : M 1 9 = nI (S 0 0 2) := h.1.1 2 (by decide)
        have fin : ∀ x, x = cntW (S 0) k → ∃ y : Int32, some x = some y ∧ y = cntW (S 0) k ∧ FrM M M ∧ RC M S := fun x e => ⟨_, rfl, e, FrM.rf M, h⟩
        refine eX9_count M _ (bX9_count_0 M _ ?_)
        rw [e0, e1]
        refine bq_lt k 60 rfl rfl hk (by omega) (fun a1 => bq_lt k 40 rfl rfl hk (by omega) (fun a2 => bq_lt k 20 rfl rfl hk (by omega) (fun a3 => ?_) (fun a3 => ?_)) (fun a2 => ?_)) (fun a1 => ?_)
        · refine eX9_countWhole M _ (bX9_countWhole_0 (d := 58) M _ ⟨fun _ => ⟨_, rfl, fin _ ?_⟩, fun z => absurd z (nz 0 (by omega)), fun z => absurd z (nz 1 (by omega)), fun z => absurd z (nz 2 (by omega)), fun z => absurd z (nz 3 (by omega)), fun z => absurd z (nz 4 (by omega)), fun z => absurd z (nz 5 (by omega)), fun z => absurd z (nz 6 (by omega)), fun z => absurd z (nz 7 (by omega)), fun z => absurd z (nz 8 (by omega)), fun z => absurd z (nz 9 (by omega))⟩)
          rw [cntW, if_neg (by omega), if_neg (by omega), if_neg (by omega)]
        · rw [show (20 : Int32) = nI 20 from rfl, pk_sub a3]
          refine bq_isP _ (k - 20) (by omega) (by omega) rfl (fun q => fin _ ?_) (fun q => ⟨vp_in_nI (by omega) (by decide), fin _ ?_⟩)
          · rw [cntW, if_neg (by omega), if_neg (by omega), if_neg (by omega)]
          · rw [cntW, if_pos (by omega), ix_nI (by omega)]
            exact h.1.2 7 (k - 20) (by decide) (by decide) (show k - 20 < 12 by omega)
        · rw [show (40 : Int32) = nI 40 from rfl, pk_sub a2]
          refine bq_isP _ (k - 40) (by omega) (by omega) rfl (fun q => fin _ ?_) (fun q => ⟨vp_in_nI (by omega) (by decide), fin _ ?_⟩)
          · rw [cntW, if_neg (by omega), if_neg (by omega), if_neg (by omega)]
          · rw [cntW, if_neg (by omega), if_pos (by omega), ix_nI (by omega)]
            exact h.1.2 3 (k - 40) (by decide) (by decide) (show k - 40 < 16 by omega)
        · rw [show (60 : Int32) = nI 60 from rfl, pk_sub a1]
          refine bq_isP _ (k - 60) (by omega) (by omega) rfl (fun q => fin _ ?_) (fun q => ⟨vp_in_nI (by omega) (by decide), fin _ ?_⟩)
          · rw [cntW, if_neg (by omega), if_neg (by omega), if_neg (by omega)]
          · rw [cntW, if_neg (by omega), if_neg (by omega), if_pos (by omega), ix_nI (by omega)]
            exact h.1.2 2 (k - 60) (by decide) (by decide) (show k - 60 < 16 by omega)
      · have e0 : M 77 0 = nI (S 0 0 0) := h.1.1 0 (by decide)
        have e1 : M 77 34 = nI (S 0 0 2) := h.1.1 2 (by decide)
        have fin : ∀ x, x = cntW (S 0) k → ∃ y : Int32, some x = some y ∧ y = cntW (S 0) k ∧ FrC M M ∧ RM M S := fun x e => ⟨_, rfl, e, FrC.rf M, h⟩
        refine eX10_count M _ (bX10_count_0 M _ ⟨fun _ => ?_, fun z => absurd z (nz 0 (by omega)), fun z => absurd z (nz 1 (by omega)), fun z => absurd z (nz 2 (by omega)), fun z => absurd z (nz 3 (by omega)), fun z => absurd z (nz 4 (by omega)), fun z => absurd z (nz 5 (by omega)), fun z => absurd z (nz 6 (by omega)), fun z => absurd z (nz 7 (by omega)), fun z => absurd z (nz 8 (by omega)), fun z => absurd z (nz 9 (by omega))⟩)
        rw [e0, e1]
        refine bq_in 20 (19 + S 0 0 2) k (by omega) (by omega) hk rfl rfl (by rw [show (19 : Int32) = nI 19 from rfl, nI_add]) (fun q1 => bq_in 40 (39 + S 0 0 0) k (by omega) (by omega) hk rfl rfl (by rw [show (39 : Int32) = nI 39 from rfl, nI_add]) (fun q2 => bq_in 60 (59 + S 0 0 0) k (by omega) (by omega) hk rfl rfl (by rw [show (59 : Int32) = nI 59 from rfl, nI_add]) (fun q3 => fin _ ?_) (fun q3 => ?_)) (fun q2 => ?_)) (fun q1 => ?_)
        · rw [cntW, if_neg (by omega), if_neg (by omega), if_neg (by omega)]
        · rw [show (60 : Int32) = nI 60 from rfl, pk_sub q3.1, ix_nI (by omega)]
          refine ⟨vp_in_nI (by omega) (by decide), fin _ ?_⟩
          rw [cntW, if_neg (by omega), if_neg (by omega), if_pos (by omega)]
          exact h.1.2 2 (k - 60) (by decide) (by decide) (show k - 60 < 16 by omega)
        · rw [show (40 : Int32) = nI 40 from rfl, pk_sub q2.1, ix_nI (by omega)]
          refine ⟨vp_in_nI (by omega) (by decide), fin _ ?_⟩
          rw [cntW, if_neg (by omega), if_pos (by omega)]
          exact h.1.2 3 (k - 40) (by decide) (by decide) (show k - 40 < 16 by omega)
        · rw [show (20 : Int32) = nI 20 from rfl, pk_sub q1.1, ix_nI (by omega)]
          refine ⟨vp_in_nI (by omega) (by decide), fin _ ?_⟩
          rw [cntW, if_pos (by omega)]
          exact h.1.2 7 (k - 20) (by decide) (by decide) (show k - 20 < 12 by omega)
