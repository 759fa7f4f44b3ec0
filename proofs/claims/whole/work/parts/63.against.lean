theorem op_against {S : SS} (hW : WF S) (x1 x2 x3 x4 : Int32) : Op S iX9_against iX10_against [.int x1, .int x2, .int x3, .int x4] := by
  have hs := hW.1
  have hn := hs.1
  have hO := hs.2.2.1
  by_cases c1 : (¬ isPV (nI (S 0 0 2)) x1 = 0 ∧ ¬ isPV (nI (S 0 0 2)) x2 = 0 ∧ ¬ x1 = x2) ∧ ¬ inV x3 1 4 = 0 ∧ ¬ inV x4 0 1 = 0
  · obtain ⟨⟨q1, q2, q3⟩, q4, q5⟩ := c1
    obtain ⟨a1, a2⟩ := isP_nI (by omega) q1
    obtain ⟨b1, b2⟩ := isP_nI (by omega) q2
    generalize ix x1 = a at a1 a2
    generalize ix x2 = b at b1 b2
    subst a2 b2
    obtain ⟨d0, d1, d2⟩ := in_nI 1 4 (by omega) (by omega) q4
    generalize ix x3 = N at d0 d1 d2
    subst d2
    obtain ⟨f0, f1, f2⟩ := in_nI 0 1 (by omega) (by omega) q5
    generalize ix x4 = w at f0 f1 f2
    subst f2
    obtain ⟨hv, hh⟩ : ∃ hv : Nat → Nat → Nat, ∀ c x, hv c x ≤ 1 ∧ (hv c x = 1 ↔ HS (S 0) (S 2) (if c = 0 then S 0 6 a else S 0 6 b) x) := by
      have ex : ∀ c x, ∃ n : Nat, n ≤ 1 ∧ (n = 1 ↔ HS (S 0) (S 2) (if c = 0 then S 0 6 a else S 0 6 b) x) := fun c x => by
        by_cases z : HS (S 0) (S 2) (if c = 0 then S 0 6 a else S 0 6 b) x
        · exact ⟨1, Nat.le_refl _, fun _ => z, fun _ => rfl⟩
        · exact ⟨0, Nat.zero_le _, fun q => by omega, fun q => absurd q z⟩
      exact ⟨fun c x => Classical.choose (ex c x), fun c x => Classical.choose_spec (ex c x)⟩
    have Pl : (plV (S 0) (S 2) hv (N - 1) 0 (S 0 7 a) (S 0 7 b) 16).2 ≤ 16 := (plF_le (by have := pv_le (s := S 0) (l := S 2) (fun c x => (hh c x).1) (N - 1) (1 - 0) (S 0 7 b) (S 0 7 a); omega) (fun p => by show 2 - _ ≤ 2; omega) 16).2
    obtain ⟨P, hP⟩ : ∃ P, P = plV (S 0) (S 2) hv (N - 1) 0 (S 0 7 a) (S 0 7 b) 16 := ⟨_, rfl⟩
    rw [← hP] at Pl
    obtain ⟨X, X0, X1⟩ : ∃ X : Int32, (w = 0 → X = cI P.1) ∧ (¬ w = 0 → X = tuI P.2) := by
      by_cases z : w = 0
      · exact ⟨_, fun _ => rfl, fun q => absurd z q⟩
      · exact ⟨_, fun q => absurd q z, fun _ => rfl⟩
    refine ⟨X, S, hW, fun M h => ?_, fun M h => ?_⟩
    · have kn : M 1 9 = nI (S 0 0 2) := h.1.1 2 (by decide)
      refine eX9_against M _ _ _ _ (bX9_against_0 M _ _ _ _ ?_)
      rw [kn]
      refine ⟨fun z => absurd z q1, fun _ => ⟨fun z => absurd z q2, fun _ => ⟨fun z => absurd z q3, fun _ => bX9_against_32 M _ _ _ _ _ ⟨fun z => absurd z (by decide), fun _ => ⟨fun z => absurd z q4, fun _ => ⟨fun _ => ?_, fun z => absurd z q5⟩⟩⟩⟩⟩⟩
      refine (c_reckonC (d := 55) vS_1 aS_37 hs hW.l0 h.1 h.l0).mono (fun M1 h1 => (c_outcomeFor (d := 50) hs h1.1 a1 b1 d1 d0 hh).mono (fun r M2 hr => ?_))
      obtain ⟨rfl, t2, g2⟩ := hr
      rw [← hP] at t2
      have fM : FrM M M2 := fun k hk => (g2 k (by omega) (by omega)).trans (h1.2.high aS_37 k hk)
      have hC : RC M2 S := by
        have h' := h.sf aS_37 h1.2
        exact h'.cg (fun k hk => g2 k (by unfold PCr at hk; omega) (by unfold PCr at hk; omega)) (h'.2.2.2.2.2.2.cg (g2 11 (by omega) (by omega)) (g2 22 (by omega) (by omega)) (g2 33 (by omega) (by omega)))
      rw [t2, ← hP]
      exact bq_ne w 0 rfl rfl (by omega) (by omega) (fun z => ⟨_, rfl, (X1 z).symm, fM, hC⟩) (fun z => ⟨_, rfl, (X0 z).symm, fM, hC⟩)
    · have kn : M 77 34 = nI (S 0 0 2) := h.1.1 2 (by decide)
      refine eX10_against M _ _ _ _ (bX10_against_0 M _ _ _ _ ?_)
      rw [kn]
      refine ⟨fun z => absurd z q1, fun _ => ⟨fun z => absurd z q2, fun _ => ⟨fun z => absurd z q3, fun _ => ⟨fun z => absurd z q4, fun _ => ⟨fun _ => ?_, fun z => absurd z q5⟩⟩⟩⟩⟩
      refine (c_laysSteps (d := 55) (w := 0) hs hW.l0 h.1 (by omega) h.l0).mono (fun M1 h1 => ?_)
      have h' := h.off h1.2
      refine (c_plays (d := 55) hs h'.1 h1.1 a1 b1 d1 d0 hh).mono (fun M2 h2 => ?_)
      obtain ⟨r7, r49, g2, g77⟩ := h2
      rw [← hP] at r7 r49
      have fr : Fr 77 [105, 106, 107, 108, 109] [49] M1 M2 := ⟨fun k hk ho => g2 k (by simp at hk; omega) ho, fun j hj => g77 j (by simp at hj; exact hj)⟩
      have h'' : RM M2 S := by
        have := h'.v0 (h'.1.fr fr rfl rfl) fr rfl rfl
        rw [setS_self] at this
        exact this
      have fC : FrC M M2 := (low_98 h1.2).tr (fr.low (by decide))
      rw [r7, r49]
      refine bq_ne w 0 rfl rfl (by omega) (by omega) (fun z => ⟨fun y => ⟨_, rfl, ?_, fC, h''⟩, fun y => ⟨_, rfl, ?_, fC, h''⟩⟩) (fun z => ⟨_, rfl, (X0 z).symm, fC, h''⟩)
      · rw [X1 z, tuI]
        by_cases e : P.2 = 0
        · rw [e] at y; exact absurd (by decide) y
        · rw [if_neg e, cI]
          obtain ⟨p, hp⟩ : ∃ p, P.2 = p + 1 := ⟨P.2 - 1, by omega⟩
          rw [hp, nI_pred, Nat.add_sub_cancel]
      · rw [X1 z, tuI]
        by_cases e : P.2 = 0
        · rw [if_pos e]
        · obtain ⟨p, hp⟩ : ∃ p, P.2 = p + 1 := ⟨P.2 - 1, by omega⟩
          rw [hp, show cI (p + 1) = nI p from nI_pred p] at y
          exact absurd y (nI_nm1 (by omega))
  · refine ⟨-1000, S, hW, fun M h => ?_, fun M h => ?_⟩
    · have kn : M 1 9 = nI (S 0 0 2) := h.1.1 2 (by decide)
      have no : ∃ x : Int32, some (-1000 : Int32) = some x ∧ x = -1000 ∧ FrM M M ∧ RC M S := ⟨_, rfl, rfl, FrM.rf M, h⟩
      have bad : AX9_against 60 (fun r M' => ∃ x, r = some x ∧ x = -1000 ∧ FrM M M' ∧ RC M' S) 31 [lR 0, lI x1, lI x2, lI x3, lI x4, none, none] [] M := bX9_against_31 M _ _ _ _ (bX9_against_32 M _ _ _ _ _ ⟨fun _ => no, fun z => absurd rfl z⟩)
      refine eX9_against M _ _ _ _ (bX9_against_0 M _ _ _ _ ?_)
      rw [kn]
      exact ⟨fun _ => bad, fun a => ⟨fun _ => bad, fun b => ⟨fun _ => bad, fun c => bX9_against_32 M _ _ _ _ _ ⟨fun _ => no, fun _ => ⟨fun _ => no, fun e => ⟨fun f => absurd ⟨⟨a, b, c⟩, e, f⟩ c1, fun _ => no⟩⟩⟩⟩⟩⟩
    · have kn : M 77 34 = nI (S 0 0 2) := h.1.1 2 (by decide)
      have no : ∃ x : Int32, some (-1000 : Int32) = some x ∧ x = -1000 ∧ FrC M M ∧ RM M S := ⟨_, rfl, rfl, FrC.rf M, h⟩
      refine eX10_against M _ _ _ _ (bX10_against_0 M _ _ _ _ ?_)
      rw [kn]
      exact ⟨fun _ => no, fun a => ⟨fun _ => no, fun b => ⟨fun _ => no, fun c => ⟨fun _ => no, fun e => ⟨fun f => absurd ⟨⟨a, b, c⟩, e, f⟩ c1, fun _ => no⟩⟩⟩⟩⟩
