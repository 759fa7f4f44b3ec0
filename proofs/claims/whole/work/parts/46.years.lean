/-! YEARS -/
def drw (s : VD) : VD := wrN s 0 4 ((25173 * s 0 4 + 13849) % 65536)
def rnS (s l : VD) : Nat → VD
  | 0 => s
  | k + 1 => pyS (drw (rnS s l k)) l ((drw (rnS s l k)) 0 4 % 10)
def rnD (s l : VD) : Nat → Nat
  | 0 => 0
  | k + 1 => rnD s l k + cnt (dyN (drw (rnS s l k)) l ((drw (rnS s l k)) 0 4 % 10))
theorem drw_04 (s : VD) : drw s 0 4 = (25173 * s 0 4 + 13849) % 65536 := wrN_same _ _ _ _
theorem drw_wf {s : VD} (h : WFV s) : WFV (drw s) := seed_wf h (Nat.mod_lt _ (by omega))
theorem rn_wf {s l : VD} (h : WFV s) : ∀ k, WFV (rnS s l k)
  | 0 => h
  | k + 1 => py_wf (drw_wf (rn_wf h k))
theorem rnD_le (s l : VD) : ∀ k, rnD s l k ≤ 16 * k
  | 0 => Nat.le_refl _
  | k + 1 => by
    have := rnD_le s l k
    have := cnt_le (dyN (drw (rnS s l k)) l ((drw (rnS s l k)) 0 4 % 10))
    rw [rnD]
    omega
theorem rn_02 (s l : VD) : ∀ k, rnS s l k 0 2 = s 0 2
  | 0 => rfl
  | k + 1 => rn_02 s l k
theorem rn_00 (s l : VD) : ∀ k, rnS s l k 0 0 = s 0 0
  | 0 => rfl
  | k + 1 => rn_00 s l k
theorem setS_self (S : SS) : setS S 0 (S 0) = S := by
  funext j
  by_cases h : j = 0
  · rw [h, setS_same]
  · rw [setS_ne h]
section RN
variable {d v n : Nat} {s l : VD} {M : Mem}
theorem c_draws (hs : WFV s) (h : VM M s) : AMi d iX10_draws [.ref 77] M (fun r M' => r = nI (drw s 0 4 % 10) ∧ VM M' (drw s) ∧ Fr 77 [] [3] M M') := by
  have k4 : M 77 3 = nI (s 0 4) := h.1 4 (by decide)
  have x4 := hs.2.2.2.2.1
  refine eX10_draws M (bX10_draws_0 M ?_)
  have e : (25173 : Int32) * nI (s 0 4) + 13849 = nI (25173 * s 0 4 + 13849) := by rw [show (25173 : Int32) = nI 25173 from rfl, pk_mul, show (13849 : Int32) = nI 13849 from rfl, nI_add]
  rw [k4, e, show (65536 : Int32) = nI 65536 from rfl, pk_rem (by omega) (by omega) (by omega), show (10 : Int32) = nI 10 from rfl, pk_rem (by have := Nat.mod_lt (25173 * s 0 4 + 13849) (show 65536 > 0 by omega); omega) (by omega) (by omega)]
  exact ⟨_, rfl, by rw [drw_04], h.sc (i := 4) (by omega) _, Fr.rf.wo 3 _ (by decide)⟩
theorem c_nextDraw (hv : vS v) (hs : WFV s) (h : VC v M s) : AMi d iX8_nextDraw [.ref v] M (fun r M' => r = nI (drw s 0 4 % 10) ∧ VC v M' (drw s) ∧ ∀ k, k ≠ v → M' k = M k) := by
  have k4 : M v 11 = nI (s 0 4) := h.1 4 (by decide)
  have x4 := hs.2.2.2.2.1
  refine eX8_nextDraw M (bX8_nextDraw_0 hv.iv M ?_)
  have e : (25173 : Int32) * nI (s 0 4) + 13849 = nI (25173 * s 0 4 + 13849) := by rw [show (25173 : Int32) = nI 25173 from rfl, pk_mul, show (13849 : Int32) = nI 13849 from rfl, nI_add]
  have e2 : nI (25173 * s 0 4 + 13849) &&& 65535 = nI ((25173 * s 0 4 + 13849) % 65536) := nx_mod _
  rw [k4, e, e2, wr_same, show (10 : Int32) = nI 10 from rfl, pk_rem (by have := Nat.mod_lt (25173 * s 0 4 + 13849) (show 65536 > 0 by omega); omega) (by omega) (by omega)]
  exact ⟨_, rfl, by rw [drw_04], h.sc (i := 4) (by omega) _, fun k hk => wr_row hk⟩
theorem Fr.app {o : Nat} {ks js ks2 js2 : List Nat} {M M1 M2 : Mem} (h : Fr o ks2 js2 M M1) (h2 : Fr o ks js M1 M2) (hk : ∀ k ∈ ks, k ∈ ks2) (hj : ∀ j ∈ js, j ∈ js2) : Fr o ks2 js2 M M2 := h.tr (h2.mono hk hj)
theorem c_runs (hs : WFV s) (hl : WFL l) (h : VM M s) (hL : LM 0 M l) (hn : n ≤ 60) : AMi (d + 4) iX10_runs [.ref 77, .int (nI n)] M (fun r M' => r = nI (rnD s l n) ∧ VM M' (rnS s l n) ∧ Fr 77 [79, 80, 96, 97, 102] [1, 2, 3] M M') := by
  refine eX10_runs M _ (bX10_runs_0 M _ ?_)
  refine up_loop (P := fun k => ∀ M', VM M' (rnS s l k) → Fr 77 [79, 80, 96, 97, 102] [1, 2, 3] M M' → AX10_runs (d + 4) (fun r M' => ∃ x, r = some x ∧ x = nI (rnD s l n) ∧ VM M' (rnS s l n) ∧ Fr 77 [79, 80, 96, 97, 102] [1, 2, 3] M M') 4 [lR 77, lI (nI n), lI (nI (rnD s l k)), lI (nI k)] [] M') n 0 (by omega) ?_ ?_ M h Fr.rf
  · intro M' h' g
    exact bX10_runs_4 M' _ _ _ (bq_le _ _ rfl rfl (by omega) (by omega) (fun _ => ⟨_, rfl, rfl, h', g⟩) (fun z => by omega))
  · intro k _ hk ih M' h' g
    have wk := rn_wf (l := l) hs k
    refine bX10_runs_4 M' _ _ _ (bq_le _ _ rfl rfl (by omega) (by omega) (fun z => by omega) (fun _ => (c_draws wk h').mono (fun r M1 hr => ?_)))
    obtain ⟨rfl, h1, f1⟩ := hr
    have g1 := g.app f1 (by decide) (by decide)
    refine (c_passes (drw_wf wk) hl h1 (hL.fr g1 rfl) (by have := Nat.mod_lt (drw (rnS s l k) 0 4) (show 10 > 0 by omega); omega)).mono (fun r M2 hr => ?_)
    obtain ⟨rfl, h2, f2⟩ := hr
    rw [nI_add, nI_1 k]
    exact ih M2 h2 (g1.app f2 (by decide) (by decide))
theorem c_runYears (hv : vS v) (hs : WFV s) (hl : WFL l) (h : VC v M s) (hL : LC 37 M l) (hz : ZV v M) (hn : n ≤ 60) : AMi (d + 5) iX9_runYears [.ref 0, .ref v, .int (nI n)] M (fun r M' => r = nI (rnD s l n) ∧ VC v M' (rnS s l n) ∧ ZV v M' ∧ YF v 37 M M') := by
  have n1 := hv.n
  refine eX9_runYears M _ (bX9_runYears_0 hv.iv M _ ?_)
  refine up_loop (P := fun k => ∀ M', VC v M' (rnS s l k) → ZV v M' → YF v 37 M M' → AX9_runYears (d + 5) (fun r M' => ∃ x, r = some x ∧ x = nI (rnD s l n) ∧ VC v M' (rnS s l n) ∧ ZV v M' ∧ YF v 37 M M') 5 [lR 0, lR v, lI (nI n), lI (nI (rnD s l k)), lI (nI k)] [] M') n 0 (by omega) ?_ ?_ M h hz (fun _ _ _ => rfl)
  · intro M' h' z g
    exact bX9_runYears_5 hv.iv M' _ _ _ (bq_le _ _ rfl rfl (by omega) (by omega) (fun _ => ⟨_, rfl, rfl, h', z, g⟩) (fun z => by omega))
  · intro k _ hk ih M' h' z g
    have wk := rn_wf (l := l) hs k
    refine bX9_runYears_5 hv.iv M' _ _ _ (bq_le _ _ rfl rfl (by omega) (by omega) (fun z => by omega) (fun _ => (c_nextDraw hv wk h').mono (fun r M1 hr => ?_)))
    obtain ⟨rfl, h1, f1⟩ := hr
    have g1 : YF v 37 M M1 := fun k q1 q2 => (f1 k (by omega)).trans (g k q1 q2)
    refine (c_passYear hv aS_37 (drw_wf wk) hl h1 (hL.cg (fun r q => g1 _ (by omega) (by omega))) (by
      intro j q1 q2; rw [f1 (v + 10) (by omega)]; exact z j q1 q2)).mono (fun r M2 hr => ?_)
    obtain ⟨rfl, h2, z2, f2⟩ := hr
    rw [nI_add, nI_1 k]
    exact ih M2 h2 z2 (fun k q1 q2 => (f2 k q1 q2).trans (g1 k q1 q2))
end RN
theorem RC.yr {M M' : Mem} {S : SS} {s : VD} (h : RC M S) (hV : VC 1 M' s) (hz : ZV 1 M') (hf : YF 1 37 M M') : RC M' (setS S 0 s) := by
  have g : ∀ k, (k < 1 ∨ 11 < k) → k ≠ 44 → M' k = M k := fun k q1 q2 => hf k (by omega) (by omega)
  refine ⟨hV, ?_, ?_, ?_, h.l0.cg (fun r q => g _ (by omega) (by omega)), h.l1.cg (fun r q => g _ (by omega) (by omega)), ?_⟩
  · have t := h.2.1
    exact ⟨by rw [g 0 (by omega) (by omega)]; exact t.1, fun q => (t.2 q).cg (g 12 (by omega) (by omega)) (fun r q1 q2 => g _ (by omega) (by omega))⟩
  · have t := h.2.2.1
    exact ⟨by rw [g 34 (by omega) (by omega)]; exact t.1, by rw [g 35 (by omega) (by omega)]; exact t.2⟩
  · have t := h.2.2.2.1
    exact ⟨by rw [g 0 (by omega) (by omega)]; exact t.1, by rw [g 76 (by omega) (by omega)]; exact t.2⟩
  · intro v hv j q1 q2
    rcases hv with rfl | rfl | rfl
    · exact hz j q1 q2
    · rw [g (12 + 10) (by omega) (by omega)]; exact h.2.2.2.2.2.2 12 isV_12 j q1 q2
    · rw [g (23 + 10) (by omega) (by omega)]; exact h.2.2.2.2.2.2 23 isV_23 j q1 q2
theorem YF.high {v : Nat} {M M' : Mem} (hv : vS v) (hf : YF v 37 M M') : FrM M M' := fun k hk => hf k (by have := hv.n; omega) (by omega)
theorem op_year {S : SS} (hW : WF S) (x1 : Int32) : Op S iX9_year iX10_year [.int x1] := by
  have hs := hW.1
  by_cases c1 : ¬ inV x1 0 9 = 0
  · obtain ⟨a0, a1, a2⟩ := in_nI 0 9 (by omega) (by omega) c1
    generalize ix x1 = dr at a0 a1 a2
    subst a2
    refine ⟨nI (cnt (dyN (S 0) (S 2) dr)), setS S 0 (pyS (S 0) (S 2) dr), hW.v0 (py_wf hs), fun M h => ?_, fun M h => ?_⟩
    · refine eX9_year M _ (bX9_year_0 M _ ⟨fun z => absurd z c1, fun _ => (c_passYear (d := 55) vS_1 aS_37 hs hW.l0 h.1 h.l0 (h.2.2.2.2.2.2 1 isV_1)).mono (fun r M1 hr => ?_)⟩)
      exact ⟨_, rfl, hr.1, hr.2.2.2.high vS_1, h.yr hr.2.1 hr.2.2.1 hr.2.2.2⟩
    · refine eX10_year M _ (bX10_year_0 M _ ⟨fun z => absurd z c1, fun _ => (c_passes (d := 56) hs hW.l0 h.1 h.l0 a1).mono (fun r M1 hr => ?_)⟩)
      exact ⟨_, rfl, hr.1, hr.2.2.low (by decide), h.v0 hr.2.1 hr.2.2 rfl rfl⟩
  · refine ⟨-1, S, hW, fun M h => ?_, fun M h => ?_⟩
    · exact eX9_year M _ (bX9_year_0 M _ ⟨fun _ => ⟨_, rfl, rfl, FrM.rf M, h⟩, fun z => absurd z c1⟩)
    · exact eX10_year M _ (bX10_year_0 M _ ⟨fun _ => ⟨_, rfl, rfl, FrC.rf M, h⟩, fun z => absurd z c1⟩)
theorem op_years {S : SS} (hW : WF S) (x1 : Int32) : Op S iX9_years iX10_years [.int x1] := by
  have hs := hW.1
  by_cases c1 : ¬ inV x1 1 60 = 0
  · obtain ⟨a0, a1, a2⟩ := in_nI 1 60 (by omega) (by omega) c1
    generalize ix x1 = n at a0 a1 a2
    subst a2
    refine ⟨nI (rnD (S 0) (S 2) n), setS S 0 (rnS (S 0) (S 2) n), hW.v0 (rn_wf hs n), fun M h => ?_, fun M h => ?_⟩
    · refine eX9_years M _ (bX9_years_0 M _ ⟨fun z => absurd z c1, fun _ => (c_runYears (d := 54) vS_1 hs hW.l0 h.1 h.l0 (h.2.2.2.2.2.2 1 isV_1) a1).mono (fun r M1 hr => ?_)⟩)
      exact ⟨_, rfl, hr.1, hr.2.2.2.high vS_1, h.yr hr.2.1 hr.2.2.1 hr.2.2.2⟩
    · refine eX10_years M _ (bX10_years_0 M _ ⟨fun z => absurd z c1, fun _ => (c_runs (d := 55) hs hW.l0 h.1 h.l0 a1).mono (fun r M1 hr => ?_)⟩)
      exact ⟨_, rfl, hr.1, hr.2.2.low (by decide), h.v0 hr.2.1 hr.2.2 rfl rfl⟩
  · refine ⟨-1, S, hW, fun M h => ?_, fun M h => ?_⟩
    · exact eX9_years M _ (bX9_years_0 M _ ⟨fun _ => ⟨_, rfl, rfl, FrM.rf M, h⟩, fun z => absurd z c1⟩)
    · exact eX10_years M _ (bX10_years_0 M _ ⟨fun _ => ⟨_, rfl, rfl, FrC.rf M, h⟩, fun z => absurd z c1⟩)
/-- set aside -/
def ASD (M : Mem) (s : VD) : Prop := M 77 39 = nI (s 0 1) ∧ M 77 40 = nI (s 0 3) ∧ M 77 41 = nI (s 0 4) ∧ (∀ j, j < 16 → M 103 j = nI (s 2 j)) ∧ ∀ j, j < 16 → M 104 j = nI (s 3 j)
def aK : List Nat := [79, 80, 96, 97, 98, 102, 103, 104]
def aJ : List Nat := [1, 2, 3, 39, 40, 41]
section AS
variable {d : Nat} {s : VD} {M M0 : Mem}
theorem ASD.cg {M M' : Mem} (h : ASD M s) (h0 : ∀ j, 39 ≤ j → j ≤ 41 → M' 77 j = M 77 j) (h1 : M' 103 = M 103) (h2 : M' 104 = M 104) : ASD M' s := by
  refine ⟨?_, ?_, ?_, ?_, ?_⟩
  · rw [h0 39 (by omega) (by omega)]; exact h.1
  · rw [h0 40 (by omega) (by omega)]; exact h.2.1
  · rw [h0 41 (by omega) (by omega)]; exact h.2.2.1
  · rw [h1]; exact h.2.2.2.1
  · rw [h2]; exact h.2.2.2.2
theorem c_begins (h : VM M s) : AMv (d + 1) iX10_begins [.ref 77] M (fun M' => VM M' s ∧ ASD M' s ∧ Fr 77 aK aJ M M') := by
  refine eX10_begins M (bX10_begins_0 M ?_)
  refine c_copies (n := 16) (by decide) ce_79 (by decide) ce_103 (by decide) (by decide) (by decide) (by decide) (by decide) ?_
  refine c_copies (n := 16) (by decide) ce_80 (by decide) ce_104 (by decide) (by decide) (by decide) (by decide) (by decide) ?_
  generalize hX : cp (cp (wr (wr (wr M 77 39 (M 77 1)) 77 40 (M 77 2)) 77 41 (M 77 3)) 103 79 16) 104 80 16 = X
  have g : Fr 77 [103, 104] [39, 40, 41] M X := by
    rw [← hX]
    refine ⟨fun k hk ho => ?_, fun j hj => ?_⟩
    · simp at hk
      rw [cp_row (by omega), cp_row (by omega), wr_row ho, wr_row ho, wr_row ho]
    · simp at hj
      rw [cp_row (by decide), cp_row (by decide), wr_el (by omega), wr_el (by omega), wr_el (by omega)]
  refine ⟨rfl, h.fr g rfl rfl, ⟨?_, ?_, ?_, fun j hj => ?_, fun j hj => ?_⟩, g.mono (by decide) (by decide)⟩
  · have e : X 77 39 = M 77 1 := by rw [← hX]; simp [wr, cp, va_up, upd]
    rw [e]; exact h.1 1 (by decide)
  · have e : X 77 40 = M 77 2 := by rw [← hX]; simp [wr, cp, va_up, upd]
    rw [e]; exact h.1 3 (by decide)
  · have e : X 77 41 = M 77 3 := by rw [← hX]; simp [wr, cp, va_up, upd]
    rw [e]; exact h.1 4 (by decide)
  · have e : X 103 j = M 79 j := by rw [← hX, cp_row (by omega), cp_at hj, wr_row (by omega), wr_row (by omega), wr_row (by omega)]
    rw [e]; exact h.2 2 j (by decide) (by decide) hj
  · have e : X 104 j = M 80 j := by rw [← hX, cp_at hj, cp_row (by omega), wr_row (by omega), wr_row (by omega), wr_row (by omega)]
    rw [e]; exact h.2 3 j (by decide) (by decide) hj
theorem c_again (h0 : VM M0 s) (g : Fr 77 aK aJ M0 M) (hA : ASD M s) : AMv (d + 1) iX10_again [.ref 77] M (fun M' => VM M' s ∧ Fr 77 aK aJ M0 M') := by
  refine eX10_again M (bX10_again_0 M ?_)
  refine c_copies (n := 16) (by decide) ce_103 (by decide) ce_79 (by decide) (by decide) (by decide) (by decide) (by decide) ?_
  refine c_copies (n := 16) (by decide) ce_104 (by decide) ce_80 (by decide) (by decide) (by decide) (by decide) (by decide) ?_
  generalize hX : cp (cp (wr (wr (wr M 77 1 (M 77 39)) 77 2 (M 77 40)) 77 3 (M 77 41)) 79 103 16) 80 104 16 = X
  have g2 : Fr 77 [79, 80] [1, 2, 3] M X := by
    rw [← hX]
    refine ⟨fun k hk ho => ?_, fun j hj => ?_⟩
    · simp at hk
      rw [cp_row (by omega), cp_row (by omega), wr_row ho, wr_row ho, wr_row ho]
    · simp at hj
      rw [cp_row (by decide), cp_row (by decide), wr_el (by omega), wr_el (by omega), wr_el (by omega)]
  have g3 := g.app g2 (by decide) (by decide)
  refine ⟨rfl, ⟨case5 ?_ ?_ ?_ ?_ ?_, fun r j q1 q2 hj => case7 (P := fun r => j < rl r → X (rowM r) j = nI (s r j)) ?_ ?_ ?_ ?_ ?_ ?_ ?_ r (by omega) q1 hj⟩, g3⟩
  · rw [g3.2 _ (by decide)]; exact h0.1 0 (by decide)
  · have e : X 77 1 = M 77 39 := by rw [← hX]; simp [wr, cp, va_up, upd]
    exact e.trans hA.1
  · rw [g3.2 _ (by decide)]; exact h0.1 2 (by decide)
  · have e : X 77 2 = M 77 40 := by rw [← hX]; simp [wr, cp, va_up, upd]
    exact e.trans hA.2.1
  · have e : X 77 3 = M 77 41 := by rw [← hX]; simp [wr, cp, va_up, upd]
    exact e.trans hA.2.2.1
  · intro hj; rw [g3.1 _ (by decide) (by decide)]; exact h0.2 1 j (by decide) (by decide) hj
  · intro hj
    have hj : j < 16 := hj
    have e : X 79 j = M 103 j := by rw [← hX, cp_row (by omega), cp_at hj, wr_row (by omega), wr_row (by omega), wr_row (by omega)]
    exact e.trans (hA.2.2.2.1 j hj)
  · intro hj
    have hj : j < 16 := hj
    have e : X 80 j = M 104 j := by rw [← hX, cp_at hj, cp_row (by omega), wr_row (by omega), wr_row (by omega), wr_row (by omega)]
    exact e.trans (hA.2.2.2.2 j hj)
  · intro hj; rw [g3.1 _ (by decide) (by decide)]; exact h0.2 4 j (by decide) (by decide) hj
  · intro hj; rw [g3.1 _ (by decide) (by decide)]; exact h0.2 5 j (by decide) (by decide) hj
  · intro hj; rw [g3.1 _ (by decide) (by decide)]; exact h0.2 6 j (by decide) (by decide) hj
  · intro hj; rw [g3.1 _ (by decide) (by decide)]; exact h0.2 7 j (by decide) (by decide) hj
theorem RM.back {M M' : Mem} {S : SS} (h : RM M S) (h1 : VM M' (S 0)) (g : Fr 77 aK aJ M M') : RM M' S := by
  have := h.v0 h1 g rfl rfl
  rw [setS_self] at this
  exact this
end AS
