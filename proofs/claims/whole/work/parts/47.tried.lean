/-! TRIED, SOONEST -/
/-- what a trial leaves alone in the class -/
def TF (M M' : Mem) : Prop := ∀ k, (k < 23 ∨ 33 < k) → k ≠ 44 → (k < 62 ∨ 68 < k) → M' k = M k
theorem TF.tr {M M1 M2 : Mem} (h : TF M M1) (h2 : TF M1 M2) : TF M M2 := fun k q1 q2 q3 => (h2 k q1 q2 q3).trans (h k q1 q2 q3)
theorem TF.high {M M' : Mem} (h : TF M M') : FrM M M' := fun k hk => h k (by omega) (by omega) (by omega)
theorem TF.sf {M M' : Mem} (h : SF 37 M M') : TF M M' := fun k _ q2 q3 => h k q3 (by omega)
theorem TF.yf {M M' : Mem} (h : YF 23 37 M M') : TF M M' := fun k q1 q2 _ => h k (by omega) (by omega)
theorem RC.tf {M M' : Mem} {S : SS} (h : RC M S) (hf : TF M M') (hz : ZV 23 M') : RC M' S := by
  refine h.cg (fun k hk => hf k (by unfold PCr at hk; omega) (by unfold PCr at hk; omega) (by unfold PCr at hk; omega)) ?_
  intro v hv j q1 q2
  rcases hv with rfl | rfl | rfl
  · rw [hf (1 + 10) (by omega) (by omega) (by omega)]; exact h.2.2.2.2.2.2 1 isV_1 j q1 q2
  · rw [hf (12 + 10) (by omega) (by omega) (by omega)]; exact h.2.2.2.2.2.2 12 isV_12 j q1 q2
  · exact hz j q1 q2
theorem LC.tf {M M' : Mem} {l : VD} (h : LC 37 M l) (hf : TF M M') : LC 37 M' l := h.cg (fun r q => hf _ (by omega) (by omega) (by omega))
theorem op_tried {S : SS} (hW : WF S) (x1 x2 : Int32) : Op S iX9_tried iX10_tried [.int x1, .int x2] := by
  have hs := hW.1
  have hn := hs.1
  by_cases c1 : ¬ inV x1 1 60 = 0 ∧ (x2 = -1 ∨ x2 = 20 ∨ ¬ isPV (nI (S 0 0 0)) x2 = 0)
  · obtain ⟨q1, q2⟩ := c1
    obtain ⟨a0, a1, a2⟩ := in_nI 1 60 (by omega) (by omega) q1
    generalize ix x1 = n at a0 a1 a2
    subst a2
    have wk := rn_wf (l := S 2) hs n
    have e00 := rn_00 (S 0) (S 2) n
    generalize hR : rnS (S 0) (S 2) n = R at wk e00
    have Rl := wk.live
    obtain ⟨m, m1, m2⟩ := HO_set R (S 2) wk
    -- the answer
    have key : ∃ x : Int32, (x2 = -1 → x = nI (cnt m)) ∧ (x2 = 20 → x = nI (cnt (R 0 1))) ∧ (¬ x2 = -1 → ¬ x2 = 20 → ∃ p, p < S 0 0 0 ∧ x2 = nI p ∧ x = (if (R 0 1).testBit p then nI (tallS R p) else -2)) := by
      by_cases z1 : x2 = -1
      · exact ⟨nI (cnt m), fun _ => rfl, fun z => absurd (z1.symm.trans z) (by decide), fun z => absurd z1 z⟩
      · by_cases z2 : x2 = 20
        · exact ⟨nI (cnt (R 0 1)), fun z => absurd z z1, fun _ => rfl, fun _ z => absurd z2 z⟩
        · have q3 : ¬ isPV (nI (S 0 0 0)) x2 = 0 := by
            rcases q2 with q | q | q
            · exact absurd q z1
            · exact absurd q z2
            · exact q
          obtain ⟨b1, b2⟩ := isP_nI (by omega) q3
          exact ⟨_, fun z => absurd z z1, fun z => absurd z z2, fun _ _ => ⟨ix x2, b1, b2, rfl⟩⟩
    obtain ⟨x, k1, k2, k3⟩ := key
    refine ⟨x, S, hW, fun M h => ?_, fun M h => ?_⟩
    · have kn : M 1 7 = nI (S 0 0 0) := h.1.1 0 (by decide)
      have go : AX9_tried 60 (fun r M' => ∃ y, r = some y ∧ y = x ∧ FrM M M' ∧ RC M' S) 27 [lR 0, lI (nI n), lI x2, none] [.int 1] M := by
        refine bX9_tried_27 M _ _ _ ⟨fun z => absurd z q1, fun _ => ⟨fun _ => (c_copy_23 (d := 58) h.1).mono (fun M1 h1 => ?_), fun z => absurd z (by decide)⟩⟩
        have t1 : TF M M1 := fun k w1 w2 w3 => h1.2 k (by omega)
        have z1 : ZV 23 M1 := by intro j w1 w2; rw [h1.2 (23 + 10) (by omega)]; exact h.2.2.2.2.2.2 23 isV_23 j w1 w2
        refine (c_runYears (d := 54) vS_23 hs hW.l0 h1.1 (h.l0.tf t1) z1 a1).mono (fun r M2 hr => ?_)
        obtain ⟨_, h2, z2, f2⟩ := hr
        rw [hR] at h2
        have t2 := t1.tr (TF.yf f2)
        have h' := h.tf t2 z2
        have kp : M2 23 7 = nI (R 0 0) := h2.1 0 (by decide)
        have kl : M2 23 8 = nI (R 0 1) := h2.1 1 (by decide)
        rw [kp, kl]
        refine ⟨fun w1 => ⟨fun w2 => ?_, fun w2 => ?_⟩, fun w1 => ?_⟩
        · obtain ⟨p, p1, rfl, p2⟩ := k3 w1 w2
          refine bq_liv _ _ p rfl rfl rfl wk.1 (by omega) (by omega) (fun q => ⟨_, rfl, ?_, t2.high, h'⟩) (fun q => (c_heightOf (d := 58) isV_23 wk h2 (by omega)).i ⟨_, rfl, ?_, t2.high, h'⟩)
          · rw [p2, q]; rfl
          · rw [p2, if_pos q]
        · rw [bc_nI Rl]; exact ⟨_, rfl, (k2 w2).symm, t2.high, h'⟩
        · refine (c_heldByC (d := 54) vS_23 aS_37 wk hW.l0 h2 (h.l0.tf t2) m2).mono (fun r M3 hr => ?_)
          obtain ⟨rfl, f3⟩ := hr
          rw [bc_nI (by omega)]
          have t3 := t2.tr (TF.sf f3)
          exact ⟨_, rfl, (k1 w1).symm, t3.high, h.tf t3 (by intro j w1 w2; rw [f3 (23 + 10) (by omega) (by omega)]; exact z2 j w1 w2)⟩
      refine eX9_tried M _ _ (bX9_tried_0 M _ _ ?_)
      rw [kn]
      refine ⟨fun _ => bX9_tried_22 M _ _ go, fun w1 => ⟨fun _ => bX9_tried_22 M _ _ go, fun w2 => ⟨fun w3 => ?_, fun _ => bX9_tried_22 M _ _ go⟩⟩⟩
      rcases q2 with q | q | q
      · exact absurd q w1
      · exact absurd q w2
      · exact absurd w3 q
    · have kn : M 77 0 = nI (S 0 0 0) := h.1.1 0 (by decide)
      have go : AX10_tried 60 (fun r M' => ∃ y, r = some y ∧ y = x ∧ FrC M M' ∧ RM M' S) 28 [lR 77, lI (nI n), lI x2, none] [] M := by
        refine bX10_tried_28 M _ _ ((c_begins (d := 58) h.1).mono (fun M1 h1 => ?_))
        obtain ⟨v1, s1, g1⟩ := h1
        refine (c_runs (d := 55) hs hW.l0 v1 (h.l0.fr g1 rfl) a1).mono (fun r M2 hr => ?_)
        obtain ⟨_, v2, f2⟩ := hr
        rw [hR] at v2
        have g2 := g1.app f2 (by decide) (by decide)
        have s2 : ASD M2 (S 0) := s1.cg (fun j w1 w2 => f2.2 j (by simp; omega)) (f2.1 _ (by decide) (by decide)) (f2.1 _ (by decide) (by decide))
        have kl : M2 77 1 = nI (R 0 1) := v2.1 1 (by decide)
        rw [kl]
        have fin : ∀ y, y = x → AMv 59 iX10_again [.ref 77] M2 (fun M3 => ∃ w, some y = some w ∧ w = x ∧ FrC M M3 ∧ RM M3 S) := fun y e => (c_again (d := 58) h.1 g2 s2).mono (fun M3 h3 => ⟨_, rfl, e, h3.2.low (by decide), h.back h3.1 h3.2⟩)
        refine ⟨fun w1 => ⟨fun w2 => ?_, fun w2 => ?_⟩, fun w1 => ?_⟩
        · obtain ⟨p, p1, rfl, p2⟩ := k3 w1 w2
          refine bq_has _ p rfl rfl (by omega) (by omega) (fun q => fin _ ?_) (fun q => (c_tallOf (d := 59) wk v2 (show p < 16 by omega)).i (fin _ ?_))
          · rw [p2, q]; rfl
          · rw [p2, if_pos q]
        · rw [bits_nI (by omega)]; exact fin _ (k2 w2).symm
        · refine (c_holding (d := 54) (w := 0) wk hW.l0 v2 (by omega) (h.l0.fr g2 rfl) m2).mono (fun r M3 hr => ?_)
          obtain ⟨rfl, f3⟩ := hr
          rw [bits_nI (by omega)]
          have g3 := g2.app (fr_98 f3) (by decide) (by decide)
          exact (c_again (d := 58) h.1 g3 (s2.cg (fun j _ _ => by rw [f3 77 (by omega) (by omega) (by omega)]) (f3 _ (by omega) (by omega) (by omega)) (f3 _ (by omega) (by omega) (by omega)))).mono (fun M4 h4 => ⟨_, rfl, (k1 w1).symm, h4.2.low (by decide), h.back h4.1 h4.2⟩)
      refine eX10_tried M _ _ (bX10_tried_0 M _ _ ?_)
      rw [kn]
      refine ⟨fun z => absurd z q1, fun _ => ⟨fun _ => go, fun w1 => ⟨fun _ => go, fun w2 => ⟨fun _ => go, fun w3 => ?_⟩⟩⟩⟩
      rcases q2 with q | q | q
      · exact absurd q w1
      · exact absurd q w2
      · exact absurd w3 q
  · refine ⟨-1, S, hW, fun M h => ?_, fun M h => ?_⟩
    · have kn : M 1 7 = nI (S 0 0 0) := h.1.1 0 (by decide)
      have no : ∃ y : Int32, some (-1 : Int32) = some y ∧ y = -1 ∧ FrM M M ∧ RC M S := ⟨_, rfl, rfl, FrM.rf M, h⟩
      have go1 : inV x1 1 60 = 0 → AX9_tried 60 (fun r M' => ∃ y, r = some y ∧ y = -1 ∧ FrM M M' ∧ RC M' S) 27 [lR 0, lI x1, lI x2, none] [.int 1] M := fun q => bX9_tried_27 M _ _ _ ⟨fun _ => no, fun z => absurd q z⟩
      have go0 : AX9_tried 60 (fun r M' => ∃ y, r = some y ∧ y = -1 ∧ FrM M M' ∧ RC M' S) 27 [lR 0, lI x1, lI x2, none] [.int 0] M := bX9_tried_27 M _ _ _ ⟨fun _ => no, fun z => ⟨fun w => absurd rfl w, fun _ => no⟩⟩
      have q0 : ∀ q : (x2 = -1 ∨ x2 = 20 ∨ ¬ isPV (nI (S 0 0 0)) x2 = 0), inV x1 1 60 = 0 := fun q => Classical.byContradiction (fun w => c1 ⟨w, q⟩)
      refine eX9_tried M _ _ (bX9_tried_0 M _ _ ?_)
      rw [kn]
      exact ⟨fun z => bX9_tried_22 M _ _ (go1 (q0 (Or.inl z))), fun w1 => ⟨fun z => bX9_tried_22 M _ _ (go1 (q0 (Or.inr (Or.inl z)))), fun w2 => ⟨fun w3 => go0, fun z => bX9_tried_22 M _ _ (go1 (q0 (Or.inr (Or.inr z))))⟩⟩⟩
    · have kn : M 77 0 = nI (S 0 0 0) := h.1.1 0 (by decide)
      have no : ∃ y : Int32, some (-1 : Int32) = some y ∧ y = -1 ∧ FrC M M ∧ RM M S := ⟨_, rfl, rfl, FrC.rf M, h⟩
      refine eX10_tried M _ _ (bX10_tried_0 M _ _ ?_)
      rw [kn]
      exact ⟨fun _ => no, fun w => ⟨fun z => absurd ⟨w, Or.inl z⟩ c1, fun _ => ⟨fun z => absurd ⟨w, Or.inr (Or.inl z)⟩ c1, fun _ => ⟨fun z => absurd ⟨w, Or.inr (Or.inr z)⟩ c1, fun _ => no⟩⟩⟩⟩
theorem first_ex (F : Nat → Prop) : ∀ n, (∃ k, k < n ∧ F k ∧ ∀ j, j < k → ¬ F j) ∨ ∀ k, k < n → ¬ F k
  | 0 => Or.inr (fun k hk => by omega)
  | n + 1 => by
    rcases first_ex F n with ⟨k, h1, h2⟩ | h
    · exact Or.inl ⟨k, by omega, h2⟩
    · by_cases z : F n
      · exact Or.inl ⟨n, by omega, z, h⟩
      · refine Or.inr (fun k hk => ?_)
        by_cases e : k = n
        · rw [e]; exact z
        · exact h k (by omega)
theorem HS_all {s l : VD} (hs : WFV s) {p : Nat} : HS s l p 65535 ↔ HS s l p (s 0 1) := ⟨fun h => ⟨h.1, h.2.1, (RS_all hs).mp h.2.2⟩, fun h => ⟨h.1, h.2.1, (RS_all hs).mpr h.2.2⟩⟩
theorem op_soonest {S : SS} (hW : WF S) (x1 : Int32) : Op S iX9_soonest iX10_soonest [.int x1] := by
  have hs := hW.1
  have hn := hs.1
  have hO := hs.2.2.1
  by_cases c1 : ¬ isPV (nI (S 0 0 2)) x1 = 0
  · obtain ⟨a1, a2⟩ := isP_nI (by omega) c1
    generalize ix x1 = o at a1 a2
    subst a2
    have vo : vp_in (nI o) 12 := vp_in_nI (by omega) (by decide)
    have key : ∃ x : Int32, (∃ k, k < 61 ∧ HS (rnS (S 0) (S 2) k) (S 2) (rnS (S 0) (S 2) k 6 o) 65535 ∧ (∀ j, j < k → ¬ HS (rnS (S 0) (S 2) j) (S 2) (rnS (S 0) (S 2) j 6 o) 65535) ∧ x = nI k) ∨ ((∀ k, k < 61 → ¬ HS (rnS (S 0) (S 2) k) (S 2) (rnS (S 0) (S 2) k 6 o) 65535) ∧ x = -2) := by
      rcases first_ex (fun k => HS (rnS (S 0) (S 2) k) (S 2) (rnS (S 0) (S 2) k 6 o) 65535) 61 with ⟨k, q1, q2, q3⟩ | q
      · exact ⟨nI k, Or.inl ⟨k, q1, q2, q3, rfl⟩⟩
      · exact ⟨-2, Or.inr ⟨q, rfl⟩⟩
    obtain ⟨x, hx⟩ := key
    have got : ∀ k, k < 61 → HS (rnS (S 0) (S 2) k) (S 2) (rnS (S 0) (S 2) k 6 o) 65535 → (∀ j, j < k → ¬ HS (rnS (S 0) (S 2) j) (S 2) (rnS (S 0) (S 2) j 6 o) 65535) → nI k = x := by
      intro k q1 q2 q3
      rcases hx with ⟨k', w1, w2, w3, rfl⟩ | ⟨w, _⟩
      · have : k = k' := by
          rcases Nat.lt_trichotomy k k' with z | z | z
          · exact absurd q2 (w3 k z)
          · exact z
          · exact absurd w2 (q3 k' z)
        rw [this]
      · exact absurd q2 (w k q1)
    have none : (∀ j, j < 61 → ¬ HS (rnS (S 0) (S 2) j) (S 2) (rnS (S 0) (S 2) j 6 o) 65535) → (-2 : Int32) = x := by
      intro q
      rcases hx with ⟨k', w1, w2, _⟩ | ⟨_, rfl⟩
      · exact absurd w2 (q k' w1)
      · rfl
    have wk := fun k => rn_wf (l := S 2) hs k
    have ow : ∀ k, rnS (S 0) (S 2) k 6 o < rnS (S 0) (S 2) k 0 0 := fun k => ((wk k).2.2.2.2.2.2.2 o (by rw [rn_02]; exact a1)).1
    refine ⟨x, S, hW, fun M h => ?_, fun M h => ?_⟩
    · have kn : M 1 9 = nI (S 0 0 2) := h.1.1 2 (by decide)
      refine eX9_soonest M _ (bX9_soonest_0 M _ ?_)
      rw [kn]
      refine ⟨fun _ => (c_copy_23 (d := 58) h.1).mono (fun M1 h1 => ?_), fun z => absurd z c1⟩
      have t1 : TF M M1 := fun k w1 w2 w3 => h1.2 k (by omega)
      have z1 : ZV 23 M1 := by intro j w1 w2; rw [h1.2 (23 + 10) (by omega)]; exact h.2.2.2.2.2.2 23 isV_23 j w1 w2
      refine up_loop (P := fun k => ∀ M', VC 23 M' (rnS (S 0) (S 2) k) → ZV 23 M' → TF M M' → (∀ j, j < k → ¬ HS (rnS (S 0) (S 2) j) (S 2) (rnS (S 0) (S 2) j 6 o) 65535) → AX9_soonest 60 (fun r M' => ∃ y, r = some y ∧ y = x ∧ FrM M M' ∧ RC M' S) 26 [lR 0, lI (nI o), lI (nI k)] [] M') 61 0 (by omega) ?_ ?_ M1 h1.1 z1 t1 (fun j hj => by omega)
      · intro M' _ z t q
        exact bX9_soonest_26 M' _ _ (bq_lt 60 61 rfl rfl (by omega) (by omega) (fun _ => ⟨_, rfl, none q, t.high, h.tf t z⟩) (fun z => by omega))
      · intro k _ hk ih M' h' z t q
        refine bX9_soonest_26 M' _ _ ?_
        rw [nI_1 k]
        refine bq_lt 60 k rfl rfl (by omega) (by omega) (fun z => by omega) (fun _ => (c_reckonC (d := 55) vS_23 aS_37 (wk k) hW.l0 h' (h.l0.tf t)).mono (fun M2 h2 => ⟨vo, ?_⟩))
        have t2 := t.tr (TF.sf h2.2)
        have z2 : ZV 23 M2 := by intro j w1 w2; rw [h2.2 (23 + 10) (by omega) (by omega)]; exact z j w1 w2
        have k6 : M2 29 o = nI (rnS (S 0) (S 2) k 6 o) := h2.1.1.2.2.1.2 6 o (by decide) (by decide) (show o < 12 by omega)
        rw [ix_nI (by omega), k6]
        obtain ⟨y, hy⟩ := HS_x (rnS (S 0) (S 2) k) (S 2) (rnS (S 0) (S 2) k 6 o) 65535
        refine (c_comesToTop (d := 57) (T := 65535) vS_23 aS_37 (wk k) h2.1 (by omega) (ow k) hy).i ?_
        rcases hy with ⟨rfl, q2⟩ | ⟨rfl, q2⟩
        · exact ⟨fun z => absurd z (by decide), fun _ => ⟨_, rfl, got k hk q2 q, t2.high, h.tf t2 z2⟩⟩
        · refine ⟨fun _ => (c_runYears (d := 54) (n := 1) vS_23 (wk k) hW.l0 h2.1.1.2.2.1 (h.l0.tf t2) z2 (by omega)).mono (fun r M3 hr => ?_), fun z => absurd rfl z⟩
          obtain ⟨_, h3, z3, f3⟩ := hr
          refine ih M3 h3 z3 (t2.tr (TF.yf f3)) (fun j hj => ?_)
          by_cases e : j = k
          · rw [e]; exact q2
          · exact q j (by omega)
    · have kn : M 77 34 = nI (S 0 0 2) := h.1.1 2 (by decide)
      refine eX10_soonest M _ (bX10_soonest_0 M _ ?_)
      rw [kn]
      refine ⟨fun _ => (c_begins (d := 58) h.1).mono (fun M1 h1 => ?_), fun z => absurd z c1⟩
      obtain ⟨v1, s1, g1⟩ := h1
      have fin : ∀ M' y, y = x → Fr 77 aK aJ M M' → ASD M' (S 0) → AMv 59 iX10_again [.ref 77] M' (fun M3 => ∃ w, some y = some w ∧ w = x ∧ FrC M M3 ∧ RM M3 S) := fun M' y e g s => (c_again (d := 58) h.1 g s).mono (fun M3 h3 => ⟨_, rfl, e, h3.2.low (by decide), h.back h3.1 h3.2⟩)
      have stop : ∀ k M', k < 61 → nI k = x → Fr 77 aK aJ M M' → ASD M' (S 0) → AX10_soonest 60 (fun r M' => ∃ y, r = some y ∧ y = x ∧ FrC M M' ∧ RM M' S) 19 [lR 77, lI (nI o), lI (nI k), lI (nI (k + 1))] [] M' := by
        intro k M' hk e g s
        refine bX10_soonest_19 M' _ _ _ ⟨fun _ => fin M' _ e g s, fun _ => ⟨fun _ => fin M' _ e g s, fun z => ?_⟩⟩
        have := congrArg Int32.toInt z
        rw [nI_toInt (by omega)] at this
        have e1 : Int32.toInt (-2) = -2 := by decide
        rw [e1] at this
        omega
      have look : ∀ k M', k < 61 → VM M' (rnS (S 0) (S 2) k) → Fr 77 aK aJ M M' → ASD M' (S 0) → (∀ j, j < k → ¬ HS (rnS (S 0) (S 2) j) (S 2) (rnS (S 0) (S 2) j 6 o) 65535) → (∀ M'', VM M'' (rnS (S 0) (S 2) k) → Fr 77 aK aJ M M'' → ASD M'' (S 0) → (∀ j, j < k + 1 → ¬ HS (rnS (S 0) (S 2) j) (S 2) (rnS (S 0) (S 2) j 6 o) 65535) → AX10_soonest 60 (fun r M' => ∃ y, r = some y ∧ y = x ∧ FrC M M' ∧ RM M' S) 19 [lR 77, lI (nI o), lI (-2), lI (nI (k + 1))] [] M'') → AX10_soonest 60 (fun r M' => ∃ y, r = some y ∧ y = x ∧ FrC M M' ∧ RM M' S) 44 [lR 77, lI (nI o), lI (-2), lI (nI k)] [] M' := by
        intro k M' hk h' g s q next
        refine bX10_soonest_44 M' _ _ _ ((c_laysSteps (d := 55) (w := 0) (wk k) hW.l0 h' (by omega) (h.l0.fr g rfl)).mono (fun M2 h2 => ⟨vo, ?_⟩))
        have g2 := g.app (fr_98 h2.2) (by decide) (by decide)
        have s2 := s.cg (fun j _ _ => by rw [h2.2 77 (by omega) (by omega) (by omega)]) (h2.2 _ (by omega) (by omega) (by omega)) (h2.2 _ (by omega) (by omega) (by omega))
        have v2 := h'.off h2.2
        have k6 : M2 99 o = nI (rnS (S 0) (S 2) k 6 o) := v2.2 6 o (by decide) (by decide) (show o < 12 by omega)
        have kl : M2 77 1 = nI (rnS (S 0) (S 2) k 0 1) := v2.1 1 (by decide)
        rw [ix_nI (by omega), k6, kl, nI_1 k]
        have lv := (wk k).live
        obtain ⟨y, hy⟩ := HS_x (rnS (S 0) (S 2) k) (S 2) (rnS (S 0) (S 2) k 6 o) (rnS (S 0) (S 2) k 0 1)
        refine (c_holdsBy (d := 57) (wk k) v2 h2.1 (by omega) (ow k) hy).i ?_
        rcases hy with ⟨rfl, q2⟩ | ⟨rfl, q2⟩
        · exact ⟨fun z => absurd z (by decide), fun _ => stop k M2 hk (got k hk ((HS_all (wk k)).mpr q2) q) g2 s2⟩
        · refine ⟨fun _ => next M2 v2 g2 s2 (fun j hj => ?_), fun z => absurd rfl z⟩
          by_cases e : j = k
          · rw [e]; exact fun w => q2 ((HS_all (wk k)).mp w)
          · exact q j (by omega)
      have loop : ∀ M', VM M' (rnS (S 0) (S 2) 0) → Fr 77 aK aJ M M' → ASD M' (S 0) → (∀ j, j < 0 + 1 → ¬ HS (rnS (S 0) (S 2) j) (S 2) (rnS (S 0) (S 2) j 6 o) 65535) → AX10_soonest 60 (fun r M' => ∃ y, r = some y ∧ y = x ∧ FrC M M' ∧ RM M' S) 19 [lR 77, lI (nI o), lI (-2), lI (nI (0 + 1))] [] M' := by
        refine up_loop (P := fun k => ∀ M', VM M' (rnS (S 0) (S 2) k) → Fr 77 aK aJ M M' → ASD M' (S 0) → (∀ j, j < k + 1 → ¬ HS (rnS (S 0) (S 2) j) (S 2) (rnS (S 0) (S 2) j 6 o) 65535) → AX10_soonest 60 (fun r M' => ∃ y, r = some y ∧ y = x ∧ FrC M M' ∧ RM M' S) 19 [lR 77, lI (nI o), lI (-2), lI (nI (k + 1))] [] M') 60 0 (by omega) ?_ ?_
        · intro M' _ g s q
          exact bX10_soonest_19 M' _ _ _ (bq_lt 60 61 rfl rfl (by omega) (by omega) (fun _ => fin M' _ (none q) g s) (fun z => by omega))
        · intro k _ hk ih M' h' g s q
          refine bX10_soonest_19 M' _ _ _ (bq_lt 60 (k + 1) rfl rfl (by omega) (by omega) (fun z => by omega) (fun _ => ⟨fun z => absurd rfl z, fun _ => bq_le (k + 1) 0 rfl rfl (by omega) (by omega) (fun z => by omega) (fun _ => (c_draws (d := 59) (wk k) h').mono (fun r M2 hr => ?_))⟩))
          obtain ⟨rfl, h2, f2⟩ := hr
          have g2 := g.app f2 (by decide) (by decide)
          have s2 := s.cg (fun j w1 w2 => f2.2 j (by simp; omega)) (f2.1 _ (by decide) (by decide)) (f2.1 _ (by decide) (by decide))
          refine (c_passes (d := 56) (drw_wf (wk k)) hW.l0 h2 (h.l0.fr g2 rfl) (by have := Nat.mod_lt (drw (rnS (S 0) (S 2) k) 0 4) (show 10 > 0 by omega); omega)).mono (fun r M3 hr => ?_)
          obtain ⟨_, h3, f3⟩ := hr
          have g3 := g2.app f3 (by decide) (by decide)
          have s3 := s2.cg (fun j w1 w2 => f3.2 j (by simp; omega)) (f3.1 _ (by decide) (by decide)) (f3.1 _ (by decide) (by decide))
          exact look (k + 1) M3 (by omega) h3 g3 s3 q ih
      refine bX10_soonest_19 M1 _ _ _ (bq_lt 60 0 rfl rfl (by omega) (by omega) (fun z => by omega) (fun _ => ⟨fun z => absurd rfl z, fun _ => bq_le 0 0 rfl rfl (by omega) (by omega) (fun _ => ?_) (fun z => by omega)⟩))
      exact look 0 M1 (by omega) v1 g1 s1 (fun j hj => by omega) loop
  · refine ⟨-1, S, hW, fun M h => ?_, fun M h => ?_⟩
    · have kn : M 1 9 = nI (S 0 0 2) := h.1.1 2 (by decide)
      refine eX9_soonest M _ (bX9_soonest_0 M _ ?_)
      rw [kn]
      exact ⟨fun z => absurd z c1, fun _ => ⟨_, rfl, rfl, FrM.rf M, h⟩⟩
    · have kn : M 77 34 = nI (S 0 0 2) := h.1.1 2 (by decide)
      refine eX10_soonest M _ (bX10_soonest_0 M _ ?_)
      rw [kn]
      exact ⟨fun z => absurd z c1, fun _ => ⟨_, rfl, rfl, FrC.rf M, h⟩⟩
