theorem op_swear {S : SS} (hW : WF S) (x1 x2 : Int32) : Op S iX9_swear iX10_swear [.int x1, .int x2] := by
  have hs := hW.1
  have hn := hs.1
  have hO := hs.2.2.1
  by_cases c1 : ¬ isPV (nI (S 0 0 2)) x1 = 0 ∧ ¬ isPV (nI (S 0 0 0)) x2 = 0
  · obtain ⟨q1, q2⟩ := c1
    obtain ⟨a1, a2⟩ := isP_nI (by omega) q1
    obtain ⟨b1, b2⟩ := isP_nI (by omega) q2
    generalize ix x1 = o at a1 a2
    generalize ix x2 = p at b1 b2
    subst a2 b2
    have w := hs.2.2.2.2.2.2.2 o a1
    have vo : vp_in (nI o) 12 := vp_in_nI (by omega) (by decide)
    have ws := hs.sworn a1
    have l1 := lbN_le hs (l := S 2) (set := S 0 7 o) (p := p) (S 0 0 0)
    have Ck : ∀ M, RC M S → M 1 9 = nI (S 0 0 2) ∧ M 1 7 = nI (S 0 0 0) ∧ M 8 o = nI (S 0 7 o) := fun M h => ⟨h.1.1 2 (by decide), h.1.1 0 (by decide), h.1.2 7 o (by decide) (by decide) (show o < 12 by omega)⟩
    have Mk : ∀ M, RM M S → M 77 34 = nI (S 0 0 2) ∧ M 77 0 = nI (S 0 0 0) ∧ M 101 o = nI (S 0 7 o) := fun M h => ⟨h.1.1 2 (by decide), h.1.1 0 (by decide), h.1.2 7 o (by decide) (by decide) (show o < 12 by omega)⟩
    have wx : (S 0 7 o ||| 2 ^ p) < 2 ^ S 0 0 0 := or_lt w.2.1 (p2_lt b1)
    have wS : WFV (wrN (S 0) 7 o (S 0 7 o ||| 2 ^ p)) := sworn_wf hs wx (fun _ => by rw [or1_bit, w.2.2]; rfl)
    cases hb : (S 0 7 o).testBit p with
    | true =>
      refine ⟨-2, S, hW, fun M h => ?_, fun M h => ?_⟩
      · obtain ⟨k1, k2, k3⟩ := Ck M h
        refine eX9_swear M _ _ (bX9_swear_0 M _ _ ?_)
        rw [k1, k2, ix_nI (by omega), k3]
        exact ⟨fun z => absurd z q1, fun _ => ⟨fun _ => ⟨vo, bq_has _ p rfl rfl (by omega) (by omega) (fun z => by rw [hb] at z; cases z) (fun _ => ⟨_, rfl, rfl, FrM.rf M, h⟩)⟩, fun z => absurd z q2⟩⟩
      · obtain ⟨k1, k2, k3⟩ := Mk M h
        refine eX10_swear M _ _ (bX10_swear_0 M _ _ ?_)
        rw [k1, k2, ix_nI (by omega), k3]
        exact ⟨fun z => absurd z q1, fun _ => ⟨fun _ => ⟨vo, bq_has _ p rfl rfl (by omega) (by omega) (fun z => by rw [hb] at z; cases z) (fun _ => ⟨_, rfl, rfl, FrC.rf M, h⟩)⟩, fun z => absurd z q2⟩⟩
    | false =>
      by_cases hf : lbN (S 0) (S 2) (S 0 7 o) p (S 0 0 0) = 1000000000
      · refine ⟨-3, S, hW, fun M h => ?_, fun M h => ?_⟩
        · obtain ⟨k1, k2, k3⟩ := Ck M h
          refine eX9_swear M _ _ (bX9_swear_0 M _ _ ?_)
          rw [k1, k2, ix_nI (by omega), k3]
          refine ⟨fun z => absurd z q1, fun _ => ⟨fun _ => ⟨vo, bq_has _ p rfl rfl (by omega) (by omega) (fun _ => ?_) (fun z => by rw [hb] at z; cases z)⟩, fun z => absurd z q2⟩⟩
          refine (c_reckonC (d := 55) vS_1 aS_37 hs hW.l0 h.1 h.l0).mono (fun M1 h1 => (c_reckonPrices (d := 55) vS_1 aS_37 hs hW.l0 h1.1).mono (fun M2 h2 => ⟨vo, ?_⟩))
          have f2 := h1.2.tr h2.2.2
          have h' := h.sf aS_37 f2
          rw [(Ck M2 h').2.2]
          refine (c_leastAsked (d := 57) vS_1 aS_37 hs h2.1 h2.2.1 (by omega) (by omega)).i ?_
          have e0 : lbV (lbN (S 0) (S 2) (S 0 7 o) p (S 0 0 0)) = -1 := if_pos hf
          rw [e0]
          exact ⟨fun z => absurd rfl z, fun _ => ⟨_, rfl, rfl, f2.high aS_37, h'⟩⟩
        · obtain ⟨k1, k2, k3⟩ := Mk M h
          refine eX10_swear M _ _ (bX10_swear_0 M _ _ ?_)
          rw [k1, k2, ix_nI (by omega), k3]
          refine ⟨fun z => absurd z q1, fun _ => ⟨fun _ => ⟨vo, bq_has _ p rfl rfl (by omega) (by omega) (fun _ => ?_) (fun z => by rw [hb] at z; cases z)⟩, fun z => absurd z q2⟩⟩
          refine (c_laysSteps (d := 55) (w := 0) hs hW.l0 h.1 (by omega) h.l0).mono (fun M1 h1 => ⟨vo, ?_⟩)
          have h' := h.off h1.2
          rw [(Mk M1 h').2.2]
          refine (c_leastBy (d := 58) hs h'.1 h1.1 (by omega) b1).i ?_
          exact bq_ne _ 1000000000 rfl rfl (by omega) (by omega) (fun z => absurd hf z) (fun _ => ⟨_, rfl, rfl, low_98 h1.2, h'⟩)
      · refine ⟨nI (lbN (S 0) (S 2) (S 0 7 o) p (S 0 0 0)), setS S 0 (wrN (S 0) 7 o (S 0 7 o ||| 2 ^ p)), hW.v0 wS, fun M h => ?_, fun M h => ?_⟩
        · obtain ⟨k1, k2, k3⟩ := Ck M h
          refine eX9_swear M _ _ (bX9_swear_0 M _ _ ?_)
          rw [k1, k2, ix_nI (by omega), k3]
          refine ⟨fun z => absurd z q1, fun _ => ⟨fun _ => ⟨vo, bq_has _ p rfl rfl (by omega) (by omega) (fun _ => ?_) (fun z => by rw [hb] at z; cases z)⟩, fun z => absurd z q2⟩⟩
          refine (c_reckonC (d := 55) vS_1 aS_37 hs hW.l0 h.1 h.l0).mono (fun M1 h1 => (c_reckonPrices (d := 55) vS_1 aS_37 hs hW.l0 h1.1).mono (fun M2 h2 => ⟨vo, ?_⟩))
          have f2 := h1.2.tr h2.2.2
          have h' := h.sf aS_37 f2
          have k8 := (Ck M2 h').2.2
          rw [k8]
          refine (c_leastAsked (d := 57) vS_1 aS_37 hs h2.1 h2.2.1 (by omega) (by omega)).i ?_
          have e0 : lbV (lbN (S 0) (S 2) (S 0 7 o) p (S 0 0 0)) = nI (lbN (S 0) (S 2) (S 0 7 o) p (S 0 0 0)) := if_neg hf
          rw [e0, k8, or1 (by omega)]
          refine ⟨fun _ => ⟨vo, vo, _, rfl, rfl, (f2.high aS_37).wr _ (by omega), h'.v0 (h'.1.rw (r := 7) (by omega) (by omega) _ _) (fun k hk _ => wr_row (by omega))⟩, fun z => ?_⟩
          have := congrArg Int32.toInt z
          rw [nI_toInt (by omega)] at this
          have e1 : Int32.toInt (-1) = -1 := by decide
          rw [e1] at this
          omega
        · obtain ⟨k1, k2, k3⟩ := Mk M h
          refine eX10_swear M _ _ (bX10_swear_0 M _ _ ?_)
          rw [k1, k2, ix_nI (by omega), k3]
          refine ⟨fun z => absurd z q1, fun _ => ⟨fun _ => ⟨vo, bq_has _ p rfl rfl (by omega) (by omega) (fun _ => ?_) (fun z => by rw [hb] at z; cases z)⟩, fun z => absurd z q2⟩⟩
          refine (c_laysSteps (d := 55) (w := 0) hs hW.l0 h.1 (by omega) h.l0).mono (fun M1 h1 => ⟨vo, ?_⟩)
          have h' := h.off h1.2
          have k8 := (Mk M1 h').2.2
          rw [k8]
          refine (c_leastBy (d := 58) hs h'.1 h1.1 (by omega) b1).i ?_
          rw [k8, or1 (by omega)]
          exact bq_ne _ 1000000000 rfl rfl (by omega) (by omega) (fun _ => ⟨vo, vo, _, rfl, rfl, (low_98 h1.2).wr _ (by omega), h'.v0 (h'.1.rw (r := 7) (by omega) (by omega) _ _) (Fr.rf.w (ks := [101]) (js := []) 101 _ _ (by decide) (by decide)) rfl rfl⟩) (fun z => absurd z hf)
  · refine ⟨-1, S, hW, fun M h => ?_, fun M h => ?_⟩
    · have k1 : M 1 9 = nI (S 0 0 2) := h.1.1 2 (by decide)
      have k2 : M 1 7 = nI (S 0 0 0) := h.1.1 0 (by decide)
      refine eX9_swear M _ _ (bX9_swear_0 M _ _ ?_)
      rw [k1, k2]
      have no : ∃ x : Int32, some (-1 : Int32) = some x ∧ x = -1 ∧ FrM M M ∧ RC M S := ⟨_, rfl, rfl, FrM.rf M, h⟩
      exact ⟨fun _ => no, fun a => ⟨fun b => absurd ⟨a, b⟩ c1, fun _ => no⟩⟩
    · have k1 : M 77 34 = nI (S 0 0 2) := h.1.1 2 (by decide)
      have k2 : M 77 0 = nI (S 0 0 0) := h.1.1 0 (by decide)
      refine eX10_swear M _ _ (bX10_swear_0 M _ _ ?_)
      rw [k1, k2]
      have no : ∃ x : Int32, some (-1 : Int32) = some x ∧ x = -1 ∧ FrC M M ∧ RM M S := ⟨_, rfl, rfl, FrC.rf M, h⟩
      exact ⟨fun _ => no, fun a => ⟨fun b => absurd ⟨a, b⟩ c1, fun _ => no⟩⟩
theorem c_heldByC {d v la n : Nat} {s l : VD} {M : Mem} (hv : vS v) (ha : aS la) (hs : WFV s) (hl : WFL l) (h : VC v M s) (hL : LC la M l) (hn : Is n (HO s l)) : AMi (d + 5) iX9_heldBy [.ref 0, .ref v, .ref la] M (fun r M' => r = nI n ∧ SF la M M') := by
  refine eX9_heldBy M (bX9_heldBy_0 hv.iv ha.ia M ((c_reckonC hv ha hs hl h hL).mono (fun M1 h1 => ?_)))
  exact (c_heldOaths (d := d + 1) (hp := 0) hv ha hs h1.1 (by omega) (hn.cg (fun i => (HH_0 i).symm))).i ⟨_, rfl, rfl, h1.2⟩
theorem op_sideBySide {S : SS} (hW : WF S) (x1 : Int32) : Op S iX9_sideBySide iX10_sideBySide [.int x1] := by
  have hs := hW.1
  by_cases c1 : ¬ inV x1 0 1 = 0
  · obtain ⟨a0, a1, a2⟩ := in_nI 0 1 (by omega) (by omega) c1
    generalize ix x1 = w at a0 a1 a2
    subst a2
    obtain ⟨n0, n01, n02⟩ := HO_set (S 0) (S 2) hs
    obtain ⟨n1, n11, n12⟩ := HO_set (S 0) (S 3) hs
    match w, a1 with
    | 0, _ =>
      refine ⟨nI (sd n0 n1), S, hW, fun M h => ?_, fun M h => ?_⟩
      · refine eX9_sideBySide M _ (bX9_sideBySide_0 M _ ⟨fun _ => ⟨37, isA_37, vp_n 0 rfl (by omega) (by omega), by decide, ?_⟩, fun z => absurd z c1⟩)
        refine (c_heldByC (d := 54) vS_1 aS_37 hs hW.l0 h.1 h.l0 n02).mono (fun r M1 h1 => ?_)
        obtain ⟨rfl, f1⟩ := h1
        have h' := h.sf aS_37 f1
        refine ⟨45, isA_45, vp_n 1 (by decide) (by omega) (by omega), by decide, (c_heldByC (d := 54) vS_1 aS_45 hs hW.l1 h'.1 h'.l1 n12).mono (fun r M2 h2 => ?_)⟩
        obtain ⟨rfl, f2⟩ := h2
        rw [andn]
        exact ⟨_, rfl, rfl, (f1.high aS_37).tr (f2.high aS_45), h'.sf aS_45 f2⟩
      · refine eX10_sideBySide M _ (bX10_sideBySide_0 M _ ⟨fun _ => ?_, fun z => absurd z c1⟩)
        refine (c_holding (d := 54) (w := 0) hs hW.l0 h.1 (by omega) h.l0 n02).mono (fun r M1 h1 => ?_)
        obtain ⟨rfl, f1⟩ := h1
        have h' := h.off f1
        refine (c_holding (d := 54) (w := 1) hs hW.l1 h'.1 (by omega) h'.l1 n12).mono (fun r M2 h2 => ?_)
        obtain ⟨rfl, f2⟩ := h2
        rw [andn]
        exact ⟨_, rfl, rfl, (low_98 f1).tr (low_98 f2), h'.off f2⟩
    | 1, _ =>
      refine ⟨nI (sd n1 n0), S, hW, fun M h => ?_, fun M h => ?_⟩
      · refine eX9_sideBySide M _ (bX9_sideBySide_0 M _ ⟨fun _ => ⟨45, isA_45, vp_n 1 rfl (by omega) (by omega), by decide, ?_⟩, fun z => absurd z c1⟩)
        refine (c_heldByC (d := 54) vS_1 aS_45 hs hW.l1 h.1 h.l1 n12).mono (fun r M1 h1 => ?_)
        obtain ⟨rfl, f1⟩ := h1
        have h' := h.sf aS_45 f1
        refine ⟨37, isA_37, vp_n 0 (by decide) (by omega) (by omega), by decide, (c_heldByC (d := 54) vS_1 aS_37 hs hW.l0 h'.1 h'.l0 n02).mono (fun r M2 h2 => ?_)⟩
        obtain ⟨rfl, f2⟩ := h2
        rw [andn]
        exact ⟨_, rfl, rfl, (f1.high aS_45).tr (f2.high aS_37), h'.sf aS_37 f2⟩
      · refine eX10_sideBySide M _ (bX10_sideBySide_0 M _ ⟨fun _ => ?_, fun z => absurd z c1⟩)
        refine (c_holding (d := 54) (w := 1) hs hW.l1 h.1 (by omega) h.l1 n12).mono (fun r M1 h1 => ?_)
        obtain ⟨rfl, f1⟩ := h1
        have h' := h.off f1
        refine (c_holding (d := 54) (w := 0) hs hW.l0 h'.1 (by omega) h'.l0 n02).mono (fun r M2 h2 => ?_)
        obtain ⟨rfl, f2⟩ := h2
        rw [andn]
        exact ⟨_, rfl, rfl, (low_98 f1).tr (low_98 f2), h'.off f2⟩
  · refine ⟨-1, S, hW, fun M h => ?_, fun M h => ?_⟩
    · exact eX9_sideBySide M _ (bX9_sideBySide_0 M _ ⟨fun z => absurd z c1, fun _ => ⟨_, rfl, rfl, FrM.rf M, h⟩⟩)
    · exact eX10_sideBySide M _ (bX10_sideBySide_0 M _ ⟨fun z => absurd z c1, fun _ => ⟨_, rfl, rfl, FrC.rf M, h⟩⟩)
theorem RS_all {s l : VD} (hs : WFV s) {A x : Nat} : RS (EB s l) A 65535 x ↔ RS (EB s l) A (s 0 1) x := by
  have hn := hs.1
  constructor
  · intro h
    exact h (RS (EB s l) A (s 0 1)) (fun y hy => RS.base hy) (fun a y ha _ he => RS.step ha (EB_t.mp he).2.1 he)
  · intro h
    refine h.mono (fun i hi => ?_)
    have : i < 16 := by have := hs.lt hi; omega
    rw [show (65535 : Nat) = 2 ^ 16 - 1 from rfl, Nat.testBit_two_pow_sub_one]
    exact decide_eq_true this
theorem op_cut {S : SS} (hW : WF S) (x1 : Int32) : Op S iX9_cut iX10_cut [.int x1] := by
  have hs := hW.1
  have hn := hs.1
  have hO := hs.2.2.1
  have hlv := hs.live
  by_cases c1 : ¬ isPV (nI (S 0 0 2)) x1 = 0
  · obtain ⟨a1, a2⟩ := isP_nI (by omega) c1
    generalize ix x1 = o at a1 a2
    subst a2
    have w := hs.2.2.2.2.2.2.2 o a1
    have vo : vp_in (nI o) 12 := vp_in_nI (by omega) (by decide)
    have Ck : ∀ M, RC M S → M 1 9 = nI (S 0 0 2) ∧ M 1 7 = nI (S 0 0 0) ∧ M 7 o = nI (S 0 6 o) ∧ M 1 8 = nI (S 0 0 1) := fun M h => ⟨h.1.1 2 (by decide), h.1.1 0 (by decide), h.1.2 6 o (by decide) (by decide) (show o < 12 by omega), h.1.1 1 (by decide)⟩
    have Mk : ∀ M, RM M S → M 77 34 = nI (S 0 0 2) ∧ M 99 o = nI (S 0 6 o) ∧ M 77 1 = nI (S 0 0 1) := fun M h => ⟨h.1.1 2 (by decide), h.1.2 6 o (by decide) (by decide) (show o < 12 by omega), h.1.1 1 (by decide)⟩
    cases hb : (S 0 0 1).testBit (S 0 6 o) with
    | false =>
      refine ⟨-1, S, hW, fun M h => ?_, fun M h => ?_⟩
      · obtain ⟨k1, k2, k3, k4⟩ := Ck M h
        refine eX9_cut M _ (bX9_cut_0 M _ ?_)
        rw [k1, k2, k4, ix_nI (by omega), k3]
        exact ⟨fun z => absurd z c1, fun _ => ⟨vo, (bq_liv _ _ _ rfl rfl rfl hn (by omega) w.1 (fun _ => ⟨_, rfl, rfl, FrM.rf M, h⟩) (fun z => by rw [hb] at z; cases z)).symm⟩⟩
      · obtain ⟨k1, k3, k4⟩ := Mk M h
        refine eX10_cut M _ (bX10_cut_0 M _ ?_)
        rw [k1, k4, ix_nI (by omega), k3]
        exact ⟨fun z => absurd z c1, fun _ => ⟨vo, bq_hasn _ _ rfl rfl (by omega) (by omega) (fun z => by rw [hb] at z; cases z) (fun _ => ⟨_, rfl, rfl, FrC.rf M, h⟩)⟩⟩
    | true =>
      obtain ⟨n, n1, n2⟩ := RS_set (l := S 2) hs w.1 (S 0 0 1)
      have n3 : Is n (RS (EB (S 0) (S 2)) (2 ^ S 0 6 o) 65535) := n2.cg (fun i => (RS_all hs).symm)
      obtain ⟨x, hx⟩ := HS_x (S 0) (S 2) (S 0 6 o) 65535
      have hH : HS (S 0) (S 2) (S 0 6 o) 65535 ↔ ¬ topS (S 0) = 31 ∧ n.testBit (topS (S 0)) = true := ⟨fun q => ⟨q.2.1, (n3 _).mpr q.2.2⟩, fun q => ⟨hb, q.1, (n3 _).mp q.2⟩⟩
      refine ⟨if x = 1 then -2 else nI n, S, hW, fun M h => ?_, fun M h => ?_⟩
      · obtain ⟨k1, k2, k3, k4⟩ := Ck M h
        refine eX9_cut M _ (bX9_cut_0 M _ ?_)
        rw [k1, k2, k4, ix_nI (by omega), k3]
        refine ⟨fun z => absurd z c1, fun _ => ⟨vo, (bq_liv _ _ _ rfl rfl rfl hn (by omega) w.1 (fun z => by rw [hb] at z; cases z) (fun _ => ?_)).symm⟩⟩
        refine (c_reckonC (d := 55) vS_1 aS_37 hs hW.l0 h.1 h.l0).mono (fun M1 h1 => ⟨vo, ?_⟩)
        have h' := h.sf aS_37 h1.2
        have k6 := (Ck M1 h').2.2.1
        rw [k6]
        refine (c_comesToTop (d := 57) (T := 65535) vS_1 aS_37 hs h1.1 (by omega) w.1 hx).i ?_
        rw [k6]
        rcases hx with ⟨rfl, q⟩ | ⟨rfl, q⟩
        · exact ⟨fun z => absurd z (by decide), fun _ => ⟨_, rfl, rfl, h1.2.high aS_37, h'⟩⟩
        · exact ⟨fun _ => ⟨vo, (c_reachFrom (d := 58) (T := 65535) vS_1 aS_37 hs h1.1 (by omega) (by omega) n3).i ⟨_, rfl, rfl, h1.2.high aS_37, h'⟩⟩, fun z => absurd rfl z⟩
      · obtain ⟨k1, k3, k4⟩ := Mk M h
        refine eX10_cut M _ (bX10_cut_0 M _ ?_)
        rw [k1, k4, ix_nI (by omega), k3]
        refine ⟨fun z => absurd z c1, fun _ => ⟨vo, bq_hasn _ _ rfl rfl (by omega) (by omega) (fun _ => ?_) (fun z => by rw [hb] at z; cases z)⟩⟩
        refine (c_laysSteps (d := 55) (w := 0) hs hW.l0 h.1 (by omega) h.l0).mono (fun M1 h1 => ⟨vo, ?_⟩)
        have h' := h.off h1.2
        obtain ⟨_, m3, m4⟩ := Mk M1 h'
        rw [m3, m4]
        refine (c_reach (d := 58) hs h'.1 h1.1 (by omega) w.1 n2).i ((c_topOf (d := 58) hs h'.1).i ?_)
        have fin1 : HS (S 0) (S 2) (S 0 6 o) 65535 → ∃ y : Int32, some (-2 : Int32) = some y ∧ y = (if x = 1 then -2 else nI n) ∧ FrC M M1 ∧ RM M1 S := fun q => ⟨_, rfl, by rcases hx with ⟨rfl, _⟩ | ⟨_, q2⟩; { rfl }; { exact absurd q q2 }, low_98 h1.2, h'⟩
        have fin0 : ¬ HS (S 0) (S 2) (S 0 6 o) 65535 → ∃ y : Int32, some (nI n) = some y ∧ y = (if x = 1 then -2 else nI n) ∧ FrC M M1 ∧ RM M1 S := fun q => ⟨_, rfl, by rcases hx with ⟨_, q2⟩ | ⟨rfl, _⟩; { exact absurd q2 q }; { rfl }, low_98 h1.2, h'⟩
        rcases topS_or (S 0) with e | ⟨e1, e2⟩
        · rw [e]
          exact ⟨fun _ => fin0 (fun q2 => q2.2.1 e), fun z => absurd (has_m1 (by omega)) z⟩
        · rw [tvI_n (by omega)]
          exact bq_has _ (topS (S 0)) rfl rfl (by omega) (by omega) (fun z => fin0 (fun q2 => by rw [(hH.mp q2).2] at z; cases z)) (fun z => fin1 (hH.mpr ⟨by omega, z⟩))
  · refine ⟨-1, S, hW, fun M h => ?_, fun M h => ?_⟩
    · have kn : M 1 9 = nI (S 0 0 2) := h.1.1 2 (by decide)
      refine eX9_cut M _ (bX9_cut_0 M _ ?_)
      rw [kn]
      exact ⟨fun _ => ⟨_, rfl, rfl, FrM.rf M, h⟩, fun z => absurd z c1⟩
    · have kn : M 77 34 = nI (S 0 0 2) := h.1.1 2 (by decide)
      refine eX10_cut M _ (bX10_cut_0 M _ ?_)
      rw [kn]
      exact ⟨fun _ => ⟨_, rfl, rfl, FrC.rf M, h⟩, fun z => absurd z c1⟩
