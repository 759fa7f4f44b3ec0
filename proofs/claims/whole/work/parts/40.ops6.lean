/-! STEP, SWEAR, HOLDS, SIDE BY SIDE, KEEP, COUNT, CUT -/
theorem RC.sf {la : Nat} {M M' : Mem} {S : SS} (ha : aS la) (h : RC M S) (hf : SF la M M') : RC M' S := by
  have hn := ha.n
  refine h.cg (fun k hk => hf k (by unfold PCr at hk; omega) (by unfold PCr at hk; rcases ha with rfl | rfl <;> omega)) (h.2.2.2.2.2.2.cg (hf 11 (by omega) (by omega)) (hf 22 (by omega) (by omega)) (hf 33 (by omega) (by omega)))
theorem SF.high {la : Nat} {M M' : Mem} (ha : aS la) (hf : SF la M M') : FrM M M' := fun k hk => hf k (by omega) (by have := ha.n; omega)
theorem fr_98 {M M' : Mem} (hf : ∀ k, k ≠ 96 → k ≠ 97 → k ≠ 98 → M' k = M k) : Fr 77 [96, 97, 98] [] M M' := by
  refine ⟨fun k hk ho => hf k ?_ ?_ ?_, fun j _ => by rw [hf 77 (by omega) (by omega) (by omega)]⟩ <;> (simp at hk; omega)
theorem RM.off {M M' : Mem} {S : SS} (h : RM M S) (hf : ∀ k, k ≠ 96 → k ≠ 97 → k ≠ 98 → M' k = M k) : RM M' S := by
  have g := fr_98 hf
  exact ⟨h.1.fr g rfl rfl, h.2.1.fr g rfl rfl, h.2.2.1.fr g rfl rfl, h.2.2.2.1.fr g rfl rfl, h.2.2.2.2.1.fr g rfl, h.2.2.2.2.2.fr g rfl⟩
theorem low_98 {M M' : Mem} (hf : ∀ k, k ≠ 96 → k ≠ 97 → k ≠ 98 → M' k = M k) : FrC M M' := fun k hk => hf k (by omega) (by omega) (by omega)
theorem vS_1 : vS 1 := Or.inl rfl
theorem vS_23 : vS 23 := Or.inr rfl
theorem aS_37 : aS 37 := Or.inl rfl
theorem aS_45 : aS 45 := Or.inr rfl
theorem WF.l0 {S : SS} (h : WF S) : WFL (S 2) := h.2.2.2.2.2.2.2.1
theorem WF.l1 {S : SS} (h : WF S) : WFL (S 3) := h.2.2.2.2.2.2.2.2
theorem RC.l0 {M : Mem} {S : SS} (h : RC M S) : LC 37 M (S 2) := h.2.2.2.2.1
theorem RC.l1 {M : Mem} {S : SS} (h : RC M S) : LC 45 M (S 3) := h.2.2.2.2.2.1
theorem RM.l0 {M : Mem} {S : SS} (h : RM M S) : LM 0 M (S 2) := h.2.2.2.2.1
theorem RM.l1 {M : Mem} {S : SS} (h : RM M S) : LM 1 M (S 3) := h.2.2.2.2.2
theorem op_step {S : SS} (hW : WF S) (x1 x2 : Int32) : Op S iX9_step iX10_step [.int x1, .int x2] := by
  have hs := hW.1
  have hn := hs.1
  by_cases c1 : ¬ isPV (nI (S 0 0 0)) x1 = 0 ∧ ¬ isPV (nI (S 0 0 0)) x2 = 0 ∧ ¬ x1 = x2
  · obtain ⟨q1, q2, q3⟩ := c1
    obtain ⟨a1, a2⟩ := isP_nI (by omega) q1
    obtain ⟨b1, b2⟩ := isP_nI (by omega) q2
    generalize ix x1 = a at a1 a2
    generalize ix x2 = b at b1 b2
    subst a2 b2
    refine ⟨if EB (S 0) (S 2) a b then nI (prN (S 0) (S 2) a b) else -2, S, hW, fun M h => ?_, fun M h => ?_⟩
    · have kn : M 1 7 = nI (S 0 0 0) := h.1.1 0 (by decide)
      refine eX9_step M _ _ (bX9_step_0 M _ _ ?_)
      rw [kn]
      refine ⟨fun z => absurd z q1, fun _ => ⟨fun z => absurd z q2, fun _ => ⟨fun _ => (c_reckonC (d := 55) vS_1 aS_37 hs hW.l0 h.1 h.l0).mono (fun M1 h1 => (c_leads (d := 58) vS_1 aS_37 h1.1 (by omega) (by omega)).i ?_), fun z => absurd z q3⟩⟩⟩
      cases hE : EB (S 0) (S 2) a b with
      | false => exact ⟨fun _ => ⟨_, rfl, rfl, h1.2.high aS_37, h.sf aS_37 h1.2⟩, fun z => absurd rfl z⟩
      | true =>
        refine ⟨fun z => absurd z (by decide), fun _ => (c_priceByLaw (d := 56) vS_1 aS_37 hs hW.l0 h1.1.1 a1 b1).mono (fun r M2 hr => ?_)⟩
        have f2 : SF 37 M M2 := h1.2.tr (fun k k1 k2 => hr.2.2.2 k (by omega) k2)
        exact ⟨_, rfl, hr.1, f2.high aS_37, h.sf aS_37 f2⟩
    · have kn : M 77 0 = nI (S 0 0 0) := h.1.1 0 (by decide)
      refine eX10_step M _ _ (bX10_step_0 M _ _ ?_)
      rw [kn]
      refine ⟨fun z => absurd z q1, fun _ => ⟨fun z => absurd z q2, fun _ => ⟨fun _ => (c_stepBy (d := 56) (w := 0) hs hW.l0 h.1 (by omega) h.l0 a1 b1).mono (fun r M1 h1 => ?_), fun z => absurd z q3⟩⟩⟩
      obtain ⟨rfl, g⟩ := h1
      have g' : ∀ k, k ≠ 96 → k ≠ 97 → k ≠ 98 → M1 k = M k := fun k k1 k2 _ => g k k1 k2
      rw [stV_nI]
      have e1 := stN_le hs (l := S 2) (a := a) (b := b)
      have e2 := stN_far hs (l := S 2) (a := a) (b := b)
      refine bq_ne _ 1000000000 rfl rfl (by omega) (by omega) (fun z => ⟨_, rfl, ?_, low_98 g', h.off g'⟩) (fun z => ⟨_, rfl, ?_, low_98 g', h.off g'⟩)
      · rw [stN]
        cases hE : EB (S 0) (S 2) a b with
        | false => exact absurd (e2.mpr hE) z
        | true => rfl
      · rw [e2.mp z]; rfl
  · refine ⟨-1, S, hW, fun M h => ?_, fun M h => ?_⟩
    · have kn : M 1 7 = nI (S 0 0 0) := h.1.1 0 (by decide)
      refine eX9_step M _ _ (bX9_step_0 M _ _ ?_)
      rw [kn]
      have no : ∃ x : Int32, some (-1 : Int32) = some x ∧ x = -1 ∧ FrM M M ∧ RC M S := ⟨_, rfl, rfl, FrM.rf M, h⟩
      exact ⟨fun _ => no, fun a => ⟨fun _ => no, fun b => ⟨fun c => absurd ⟨a, b, c⟩ c1, fun _ => no⟩⟩⟩
    · have kn : M 77 0 = nI (S 0 0 0) := h.1.1 0 (by decide)
      refine eX10_step M _ _ (bX10_step_0 M _ _ ?_)
      rw [kn]
      have no : ∃ x : Int32, some (-1 : Int32) = some x ∧ x = -1 ∧ FrC M M ∧ RM M S := ⟨_, rfl, rfl, FrC.rf M, h⟩
      exact ⟨fun _ => no, fun a => ⟨fun _ => no, fun b => ⟨fun c => absurd ⟨a, b, c⟩ c1, fun _ => no⟩⟩⟩
theorem op_holds {S : SS} (hW : WF S) (x1 : Int32) : Op S iX9_holds iX10_holds [.int x1] := by
  have hs := hW.1
  have hn := hs.1
  have hO := hs.2.2.1
  by_cases c1 : ¬ isPV (nI (S 0 0 2)) x1 = 0
  · obtain ⟨a1, a2⟩ := isP_nI (by omega) c1
    generalize ix x1 = o at a1 a2
    subst a2
    have w := hs.2.2.2.2.2.2.2 o a1
    have vo : vp_in (nI o) 12 := vp_in_nI (by omega) (by decide)
    have ws := hs.sworn a1
    obtain ⟨x, hx⟩ := HS_x (S 0) (S 2) (S 0 6 o) (S 0 7 o)
    refine ⟨x, S, hW, fun M h => ?_, fun M h => ?_⟩
    · have kn : M 1 9 = nI (S 0 0 2) := h.1.1 2 (by decide)
      refine eX9_holds M _ (bX9_holds_0 M _ ?_)
      rw [kn]
      refine ⟨fun _ => (c_reckonC (d := 55) vS_1 aS_37 hs hW.l0 h.1 h.l0).mono (fun M1 h1 => ⟨vo, vo, ?_⟩), fun z => absurd z c1⟩
      have k6 : M1 7 o = nI (S 0 6 o) := h1.1.1.2.2.1.2 6 o (by decide) (by decide) (show o < 12 by omega)
      have k7 : M1 8 o = nI (S 0 7 o) := h1.1.1.2.2.1.2 7 o (by decide) (by decide) (show o < 12 by omega)
      rw [ix_nI (by omega), k6, k7]
      refine (c_comesToTop (d := 57) vS_1 aS_37 hs h1.1 (by omega) w.1 hx).i ?_
      rcases hx with ⟨rfl, q⟩ | ⟨rfl, q⟩
      · exact ⟨fun z => absurd z (by decide), fun _ => ⟨_, rfl, rfl, h1.2.high aS_37, h.sf aS_37 h1.2⟩⟩
      · exact ⟨fun _ => ⟨_, rfl, rfl, h1.2.high aS_37, h.sf aS_37 h1.2⟩, fun z => absurd rfl z⟩
    · have kn : M 77 34 = nI (S 0 0 2) := h.1.1 2 (by decide)
      refine eX10_holds M _ (bX10_holds_0 M _ ?_)
      rw [kn]
      refine ⟨fun _ => (c_laysSteps (d := 55) (w := 0) hs hW.l0 h.1 (by omega) h.l0).mono (fun M1 h1 => ?_), fun z => absurd z c1⟩
      have h' := h.off h1.2
      refine (c_holdsNow (d := 56) hs h'.1 h1.1 a1 hx).i ?_
      rcases hx with ⟨rfl, q⟩ | ⟨rfl, q⟩
      · exact ⟨fun z => absurd z (by decide), fun _ => ⟨_, rfl, rfl, low_98 h1.2, h'⟩⟩
      · exact ⟨fun _ => ⟨_, rfl, rfl, low_98 h1.2, h'⟩, fun z => absurd rfl z⟩
  · refine ⟨-1, S, hW, fun M h => ?_, fun M h => ?_⟩
    · have kn : M 1 9 = nI (S 0 0 2) := h.1.1 2 (by decide)
      refine eX9_holds M _ (bX9_holds_0 M _ ?_)
      rw [kn]
      exact ⟨fun z => absurd z c1, fun _ => ⟨_, rfl, rfl, FrM.rf M, h⟩⟩
    · have kn : M 77 34 = nI (S 0 0 2) := h.1.1 2 (by decide)
      refine eX10_holds M _ (bX10_holds_0 M _ ?_)
      rw [kn]
      exact ⟨fun z => absurd z c1, fun _ => ⟨_, rfl, rfl, FrC.rf M, h⟩⟩
theorem sworn_wf {s : VD} (h : WFV s) {o x : Nat} (hx : x < 2 ^ s 0 0) (h6 : o < s 0 2 → x.testBit (s 6 o) = true) : WFV (wrN s 7 o x) := by
  obtain ⟨h1, h2, h3, h4, h5, h6', h7, h8⟩ := h
  refine ⟨h1, h2, h3, h4, h5, h6', h7, fun q hq => ?_⟩
  have := h8 q hq
  by_cases z : q = o
  · subst z
    have e : wrN s 7 q x 7 q = x := wrN_same _ _ _ _
    have e6 : wrN s 7 q x 6 q = s 6 q := wrN_ne (by omega)
    rw [e, e6]
    first
      | exact ⟨this.1, hx⟩
      | exact ⟨this.1, hx, h6 hq⟩
  · have e : wrN s 7 o x 7 q = s 7 q := wrN_ne (by omega)
    have e6 : wrN s 7 o x 6 q = s 6 q := wrN_ne (by omega)
    rw [e, e6]
    exact this
