theorem cp_row {M : Mem} {t f n k : Nat} (h : k ≠ t) : cp M t f n k = M k := if_neg h
theorem cp_at {M : Mem} {t f n j : Nat} (h : j < n) : cp M t f n t j = M f j := by
  show (if t = t then va_cpy (M f) (M t) 0 0 n else M t) j = _
  rw [if_pos rfl]
  show (if 0 ≤ j ∧ j < 0 + n then M f (0 + (j - 0)) else M t j) = _
  rw [if_pos ⟨by omega, by omega⟩, Nat.zero_add, Nat.sub_zero]
theorem cp_out {M : Mem} {t f n j : Nat} (h : n ≤ j) : cp M t f n t j = M t j := by
  show (if t = t then va_cpy (M f) (M t) 0 0 n else M t) j = _
  rw [if_pos rfl]
  show (if 0 ≤ j ∧ j < 0 + n then M f (0 + (j - 0)) else M t j) = _
  rw [if_neg (by omega)]
theorem mem_ext {M M' : Mem} (h : ∀ k j, M k j = M' k j) : M = M' := funext fun k => funext fun j => h k j
theorem cp_step {M : Mem} {t f i : Nat} (h : f ≠ t) : wr (cp M t f i) t i (cp M t f i f i) = cp M t f (i + 1) := by
  apply mem_ext
  intro k j
  by_cases hk : k = t
  · subst hk
    by_cases hj : j = i
    · subst hj; rw [wr_same, cp_row h, cp_at (by omega)]
    · rw [wr_el hj]
      rcases Nat.lt_or_ge j i with q | q
      · rw [cp_at q, cp_at (by omega)]
      · rw [cp_out q, cp_out (by omega)]
  · rw [wr_row hk, cp_row hk, cp_row hk]
theorem cp_zero (M : Mem) (t f : Nat) : cp M t f 0 = M := by
  apply mem_ext
  intro k j
  by_cases hk : k = t
  · subst hk; exact cp_out (by omega)
  · rw [cp_row hk]
theorem c_copies {d nf nt f t n : Nat} {M : Mem} (hk_f : f < K0) (hc_f : cellD f = .inr (.inl (false, nf))) (hk_t : t < K0) (hc_t : cellD t = .inr (.inl (false, nt))) (hft : f ≠ t) (h1 : n ≤ nf) (h2 : n ≤ nt) (h3 : nf < 2 ^ 31) (h4 : nt < 2 ^ 31) {P : Mem → Prop} (h : P (cp M t f n)) : AMv d iX10_copies [.ref f, .ref t, .int (nI n)] M P := by
  refine eX10_copies M _ (bX10_copies_0 hk_f hc_f hk_t hc_t M _ ?_)
  have key := up_loop (P := fun i => AX10_copies d (fun r M' => r = none ∧ P M') 2 [lR f, lR t, lI (nI n), lI (nI i)] [] (cp M t f i)) n 0 (by omega) ?_ ?_
  · have key : AX10_copies d (fun r M' => r = none ∧ P M') 2 [lR f, lR t, lI (nI n), lI (nI 0)] [] (cp M t f 0) := key
    rw [cp_zero] at key
    exact key
  · exact bX10_copies_2 hk_f hc_f hk_t hc_t _ _ _ (bq_le _ _ rfl rfl (by omega) (by omega) (fun _ => ⟨rfl, h⟩) (fun z => by omega))
  · intro i _ hi ih
    refine bX10_copies_2 hk_f hc_f hk_t hc_t _ _ _ (bq_le _ _ rfl rfl (by omega) (by omega) (fun z => by omega) (fun _ => ⟨vp_in_nI (by omega) h3, vp_in_nI (by omega) h4, ?_⟩))
    rw [ix_nI (by omega), cp_step hft, nI_1]
    exact ih
theorem VRel.copy {M M' : Mem} {o o' : Nat} {sl sl' row row' : Nat → Nat} {s : VD} (h : VRel M o sl row s) (ho : ∀ i, i < 5 → M' o' (sl' i) = M o (sl i)) (hr : ∀ r, r < 8 → 1 ≤ r → ∀ j, j < rl r → M' (row' r) j = M (row r) j) : VRel M' o' sl' row' s :=
  ⟨fun i hi => (ho i hi).trans (h.1 i hi), fun r j h1 h2 hj => (hr r (by omega) h1 j hj).trans (h.2 r j h1 h2 hj)⟩
theorem case5 {P : Nat → Prop} (h0 : P 0) (h1 : P 1) (h2 : P 2) (h3 : P 3) (h4 : P 4) : ∀ i, i < 5 → P i
  | 0, _ => h0
  | 1, _ => h1
  | 2, _ => h2
  | 3, _ => h3
  | 4, _ => h4
theorem case7 {P : Nat → Prop} (h1 : P 1) (h2 : P 2) (h3 : P 3) (h4 : P 4) (h5 : P 5) (h6 : P 6) (h7 : P 7) : ∀ r, r < 8 → 1 ≤ r → P r
  | 1, _, _ => h1
  | 2, _, _ => h2
  | 3, _, _ => h3
  | 4, _, _ => h4
  | 5, _, _ => h5
  | 6, _, _ => h6
  | 7, _, _ => h7
/-- the class's copy of a valley: what is there then -/
theorem c_copy_12 {d : Nat} {M : Mem} {s : VD} (h : VC 1 M s) : AMv (d + 1) iX8_copyFrom [.ref 12, .ref 1] M (fun M' => VC 12 M' s ∧ ∀ k, (k < 12 ∨ 19 < k) → M' k = M k) := by
  refine eX8_copyFrom_12_1 M (bX8_copyFrom_12_1_0 M ⟨rfl, ?_, fun k hk => ?_⟩)
  · refine VRel.copy (sl' := fun i => 7 + i) (row' := fun r => 12 + r) h (case5 ?_ ?_ ?_ ?_ ?_) (case7 ?_ ?_ ?_ ?_ ?_ ?_ ?_)
    · simp [wr, va_up, upd]
    · simp [wr, va_up, upd]
    · simp [wr, va_up, upd]
    · simp [wr, va_up, upd]
    · simp [wr, va_up, upd]
    all_goals
      intro j hj
      simp only [rl] at hj
      simp at hj
      simp [wr, cp, va_up, upd, va_cpy, hj]
  · have e : ∀ q, 12 ≤ q → q ≤ 19 → k ≠ q := fun q _ _ => by omega
    rw [wr_row (e 12 (by omega) (by omega)), wr_row (e 12 (by omega) (by omega)), wr_row (e 12 (by omega) (by omega)), wr_row (e 12 (by omega) (by omega)), wr_row (e 12 (by omega) (by omega)), cp_row (e 19 (by omega) (by omega)), cp_row (e 18 (by omega) (by omega)), cp_row (e 17 (by omega) (by omega)), cp_row (e 16 (by omega) (by omega)), cp_row (e 15 (by omega) (by omega)), cp_row (e 14 (by omega) (by omega)), cp_row (e 13 (by omega) (by omega))]
theorem c_copy_1 {d : Nat} {M : Mem} {s : VD} (h : VC 12 M s) : AMv (d + 1) iX8_copyFrom [.ref 1, .ref 12] M (fun M' => VC 1 M' s ∧ ∀ k, (k < 1 ∨ 8 < k) → M' k = M k) := by
  refine eX8_copyFrom_1_12 M (bX8_copyFrom_1_12_0 M ⟨rfl, ?_, fun k hk => ?_⟩)
  · refine VRel.copy (sl' := fun i => 7 + i) (row' := fun r => 1 + r) h (case5 ?_ ?_ ?_ ?_ ?_) (case7 ?_ ?_ ?_ ?_ ?_ ?_ ?_)
    · simp [wr, va_up, upd]
    · simp [wr, va_up, upd]
    · simp [wr, va_up, upd]
    · simp [wr, va_up, upd]
    · simp [wr, va_up, upd]
    all_goals
      intro j hj
      simp only [rl] at hj
      simp at hj
      simp [wr, cp, va_up, upd, va_cpy, hj]
  · have e : ∀ q, 1 ≤ q → q ≤ 8 → k ≠ q := fun q _ _ => by omega
    rw [wr_row (e 1 (by omega) (by omega)), wr_row (e 1 (by omega) (by omega)), wr_row (e 1 (by omega) (by omega)), wr_row (e 1 (by omega) (by omega)), wr_row (e 1 (by omega) (by omega)), cp_row (e 8 (by omega) (by omega)), cp_row (e 7 (by omega) (by omega)), cp_row (e 6 (by omega) (by omega)), cp_row (e 5 (by omega) (by omega)), cp_row (e 4 (by omega) (by omega)), cp_row (e 3 (by omega) (by omega)), cp_row (e 2 (by omega) (by omega))]
theorem c_copy_23 {d : Nat} {M : Mem} {s : VD} (h : VC 1 M s) : AMv (d + 1) iX8_copyFrom [.ref 23, .ref 1] M (fun M' => VC 23 M' s ∧ ∀ k, (k < 23 ∨ 30 < k) → M' k = M k) := by
  refine eX8_copyFrom_23_1 M (bX8_copyFrom_23_1_0 M ⟨rfl, ?_, fun k hk => ?_⟩)
  · refine VRel.copy (sl' := fun i => 7 + i) (row' := fun r => 23 + r) h (case5 ?_ ?_ ?_ ?_ ?_) (case7 ?_ ?_ ?_ ?_ ?_ ?_ ?_)
    · simp [wr, va_up, upd]
    · simp [wr, va_up, upd]
    · simp [wr, va_up, upd]
    · simp [wr, va_up, upd]
    · simp [wr, va_up, upd]
    all_goals
      intro j hj
      simp only [rl] at hj
      simp at hj
      simp [wr, cp, va_up, upd, va_cpy, hj]
  · have e : ∀ q, 23 ≤ q → q ≤ 30 → k ≠ q := fun q _ _ => by omega
    rw [wr_row (e 23 (by omega) (by omega)), wr_row (e 23 (by omega) (by omega)), wr_row (e 23 (by omega) (by omega)), wr_row (e 23 (by omega) (by omega)), wr_row (e 23 (by omega) (by omega)), cp_row (e 30 (by omega) (by omega)), cp_row (e 29 (by omega) (by omega)), cp_row (e 28 (by omega) (by omega)), cp_row (e 27 (by omega) (by omega)), cp_row (e 26 (by omega) (by omega)), cp_row (e 25 (by omega) (by omega)), cp_row (e 24 (by omega) (by omega))]
theorem op_undo {S : SS} (hW : WF S) : Op S iX9_undo iX10_undo [] := by
  by_cases hc : S 4 0 0 = 0
  · refine ⟨0, S, hW, fun M h => ?_, fun M h => ?_⟩
    · refine eX9_undo M (bX9_undo_0 M ?_)
      rw [h.2.1.1, hc]
      exact ⟨fun z => absurd nI_0 z, fun _ => ⟨_, rfl, rfl, FrM.rf M, h⟩⟩
    · refine eX10_undo M (bX10_undo_0 M ?_)
      rw [h.2.1.1, hc]
      exact ⟨fun z => absurd nI_0 z, fun _ => ⟨_, rfl, rfl, FrC.rf M, h⟩⟩
  · have hk : S 4 0 0 = 1 := by have := hW.2.1; omega
    refine ⟨1, setS S 0 (S 1), hW.v0 (hW.2.2.1 hk), fun M h => ?_, fun M h => ?_⟩
    · refine eX9_undo M (bX9_undo_0 M ?_)
      rw [h.2.1.1, hk]
      refine ⟨fun _ => (c_copy_1 (h.2.1.2 hk)).mono (fun M1 h1 => ⟨_, rfl, rfl, fun k hk => h1.2 k (by omega), h.v0 h1.1 (fun k hk _ => h1.2 k (by omega))⟩), fun z => absurd z (by decide)⟩
    · refine eX10_undo M (bX10_undo_0 M ?_)
      rw [h.2.1.1, hk]
      refine ⟨fun _ => ?_, fun z => absurd z (by decide)⟩
      refine c_copies (n := 16) (by decide) ce_111 (by decide) ce_78 (by decide) (by decide) (by decide) (by decide) (by decide) ?_
      refine c_copies (n := 16) (by decide) ce_112 (by decide) ce_79 (by decide) (by decide) (by decide) (by decide) (by decide) ?_
      refine c_copies (n := 16) (by decide) ce_113 (by decide) ce_80 (by decide) (by decide) (by decide) (by decide) (by decide) ?_
      refine c_copies (n := 16) (by decide) ce_114 (by decide) ce_81 (by decide) (by decide) (by decide) (by decide) (by decide) ?_
      refine c_copies (n := 16) (by decide) ce_115 (by decide) ce_82 (by decide) (by decide) (by decide) (by decide) (by decide) ?_
      refine c_copies (n := 12) (by decide) ce_116 (by decide) ce_99 (by decide) (by decide) (by decide) (by decide) (by decide) ?_
      refine c_copies (n := 12) (by decide) ce_117 (by decide) ce_100 (by decide) (by decide) (by decide) (by decide) (by decide) ?_
      refine c_copies (n := 12) (by decide) ce_118 (by decide) ce_101 (by decide) (by decide) (by decide) (by decide) (by decide) ?_
      have vk := h.2.1.2 hk
      have q : VM (cp (cp (cp (cp (cp (cp (cp (cp (wr (wr (wr (wr (wr M 77 0 (M 77 53)) 77 1 (M 77 54)) 77 2 (M 77 55)) 77 3 (M 77 56)) 77 34 (M 77 57)) 78 111 16) 79 112 16) 80 113 16) 81 114 16) 82 115 16) 99 116 12) 100 117 12) 101 118 12) (S 1) := by
        refine VRel.copy vk (case5 ?_ ?_ ?_ ?_ ?_) (case7 ?_ ?_ ?_ ?_ ?_ ?_ ?_)
        · simp [wr, cp, va_up, upd, slM, slK]
        · simp [wr, cp, va_up, upd, slM, slK]
        · simp [wr, cp, va_up, upd, slM, slK]
        · simp [wr, cp, va_up, upd, slM, slK]
        · simp [wr, cp, va_up, upd, slM, slK]
        all_goals
          intro j hj
          simp only [rl] at hj
          simp at hj
          simp [wr, cp, va_up, upd, va_cpy, hj, rowM, rowK]
      have g : Fr 77 [78, 79, 80, 81, 82, 99, 100, 101] [0, 1, 2, 3, 34] M (cp (cp (cp (cp (cp (cp (cp (cp (wr (wr (wr (wr (wr M 77 0 (M 77 53)) 77 1 (M 77 54)) 77 2 (M 77 55)) 77 3 (M 77 56)) 77 34 (M 77 57)) 78 111 16) 79 112 16) 80 113 16) 81 114 16) 82 115 16) 99 116 12) 100 117 12) 101 118 12) := by
        refine ⟨fun k hk ho => ?_, fun j hj => ?_⟩
        · simp at hk
          rw [cp_row (by omega), cp_row (by omega), cp_row (by omega), cp_row (by omega), cp_row (by omega), cp_row (by omega), cp_row (by omega), cp_row (by omega), wr_row ho, wr_row ho, wr_row ho, wr_row ho, wr_row ho]
        · simp at hj
          rw [cp_row (by decide), cp_row (by decide), cp_row (by decide), cp_row (by decide), cp_row (by decide), cp_row (by decide), cp_row (by decide), cp_row (by decide), wr_el (by omega), wr_el (by omega), wr_el (by omega), wr_el (by omega), wr_el (by omega)]
      exact ⟨_, rfl, rfl, g.low (by decide), h.v0 q g rfl rfl⟩
