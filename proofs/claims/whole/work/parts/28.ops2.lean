theorem RC.v0 {M M' : Mem} {S : SS} {v : VD} (h : RC M S) (h1 : VC 1 M' v) (hf : ∀ k, k = 0 ∨ 9 ≤ k → k < 77 → M' k = M k) : RC M' (setS S 0 v) := by
  obtain ⟨-, h2, h3, h4, h5, h6, h7⟩ := h
  have gk : ∀ k, 9 ≤ k → k < 77 → M' k = M k := fun k a b => hf k (Or.inr a) b
  have g0 := hf 0 (Or.inl rfl) (by omega)
  refine ⟨h1, ⟨by rw [g0]; exact h2.1, fun q => (h2.2 q).cg (gk _ (by omega) (by omega)) (fun r _ _ => gk _ (by omega) (by omega))⟩, ?_, ?_, h5.cg (fun r _ => gk _ (by omega) (by omega)), h6.cg (fun r _ => gk _ (by omega) (by omega)), h7.cg (gk _ (by omega) (by omega)) (gk _ (by omega) (by omega)) (gk _ (by omega) (by omega))⟩
  · rw [TC, gk 34 (by omega) (by omega), gk 35 (by omega) (by omega)]; exact h3
  · rw [GC, g0, gk 76 (by omega) (by omega)]; exact h4
theorem RM.v0 {M M' : Mem} {S : SS} {v : VD} {ks js : List Nat} (h : RM M S) (h1 : VM M' v) (g : Fr 77 ks js M M') (hk : (ks.all fun k => decide (k ∉ [83, 90, 91, 92, 93, 94, 95, 110, 111, 112, 113, 114, 115, 116, 118])) = true) (hj : (js.all fun j => decide (j ∉ [10, 50, 52, 53, 54, 57, 55, 56])) = true) : RM M' (setS S 0 v) := by
  obtain ⟨-, h2, h3, h4, h5, h6⟩ := h
  have kn : ∀ k, k ∈ [83, 90, 91, 92, 93, 94, 95, 110, 111, 112, 113, 114, 115, 116, 118] → k ∉ ks := fun k z w => of_decide_eq_true (List.all_eq_true.mp hk _ w) z
  have jn : ∀ j, j ∈ [10, 50, 52, 53, 54, 57, 55, 56] → j ∉ js := fun j z w => of_decide_eq_true (List.all_eq_true.mp hj _ w) z
  have l : ∀ {w : Nat} {l : VD}, LM w M l → LM w M' l := fun {w l} q => by
    rw [LM, g.1 91 (kn _ (by decide)) (by omega), g.1 90 (kn _ (by decide)) (by omega), g.1 92 (kn _ (by decide)) (by omega), g.1 93 (kn _ (by decide)) (by omega), g.1 94 (kn _ (by decide)) (by omega), g.1 95 (kn _ (by decide)) (by omega)]; exact q
  refine ⟨h1, ⟨by rw [g.2 52 (jn _ (by decide))]; exact h2.1, fun q => VRel.cg (h2.2 q) (fun i hi => g.2 _ (jn _ (by have := slK_mem i hi; simp at this ⊢; omega))) (fun r q1 q2 => g.1 _ (kn _ (by have := rowK_mem r q1 q2; simp at this ⊢; omega)) (rowK_o r q1 q2))⟩, ?_, ?_, l h5, l h6⟩
  · rw [TM, g.2 10 (jn _ (by decide)), g.1 83 (kn _ (by decide)) (by omega)]; exact h3
  · rw [GM, g.2 50 (jn _ (by decide)), g.1 110 (kn _ (by decide)) (by omega)]; exact h4
theorem wr_off {M : Mem} {k j k' : Nat} {x : Int32} (h : k' ≠ k) : wr M k j x k' = M k' := wr_row h
theorem heel_wf {s : VD} (h : WFV s) {p n : Nat} (hn : n ≤ 9) : WFV (wrN s 4 p n) := by
  obtain ⟨h1, h2, h3, h4, h5, h6, h7, h8⟩ := h
  refine ⟨h1, h2, h3, h4, h5, fun j hj => ?_, h7, h8⟩
  have := h6 j hj
  by_cases z : j = p
  · subst z; simp [wrN]; omega
  · simp [wrN, z]; omega
theorem op_heels {S : SS} (hW : WF S) (x1 x2 : Int32) : Op S iX9_heels iX10_heels [.int x1, .int x2] := by
  have hs := hW.1
  have hl := hs.live
  by_cases hc : ¬ livV (nI (S 0 0 0)) (nI (S 0 0 1)) x1 = 0 ∧ ¬ inV x2 0 9 = 0
  · obtain ⟨c1, c2⟩ := hc
    obtain ⟨a1, a2, a3⟩ := liv_nI hs.1 (by omega) c1
    obtain ⟨b1, b2, b3⟩ := in_nI 0 9 (by omega) (by omega) c2
    have hn := hs.1
    refine ⟨1, setS S 0 (wrN (S 0) 4 (ix x1) (ix x2)), hW.v0 (heel_wf hs b2), fun M h => ?_, fun M h => ?_⟩
    · have kn : M 1 7 = nI (S 0 0 0) := h.1.1 0 (by decide)
      have kl : M 1 8 = nI (S 0 0 1) := h.1.1 1 (by decide)
      refine eX9_heels M _ _ (bX9_heels_0 M _ _ ?_)
      rw [kn, kl]
      refine ⟨fun z => absurd z c1, fun _ => ⟨fun _ => ⟨vp_n _ a3 (by omega) (by decide), _, rfl, rfl, (FrM.rf M).wr _ (by omega), ?_⟩, fun z => absurd z c2⟩⟩
      have q := h.1.rw (r := 4) (by decide) (by decide) (ix x1) (ix x2)
      rw [← b3] at q
      exact h.v0 q (fun k hk _ => wr_off (by omega))
    · have kn : M 77 0 = nI (S 0 0 0) := h.1.1 0 (by decide)
      have kl : M 77 1 = nI (S 0 0 1) := h.1.1 1 (by decide)
      refine eX10_heels M _ _ (bX10_heels_0 M _ _ ?_)
      rw [kn, kl]
      refine ⟨fun z => absurd z c1, fun _ => ⟨fun _ => ⟨vp_n _ a3 (by omega) (by decide), _, rfl, rfl, (FrC.rf M).wr _ (by omega), ?_⟩, fun z => absurd z c2⟩⟩
      have q := h.1.rw (r := 4) (by decide) (by decide) (ix x1) (ix x2)
      rw [← b3] at q
      exact h.v0 (ks := [81]) (js := []) q (Fr.rf.w 81 _ _ (by decide) (by decide)) rfl rfl
  · refine ⟨0, S, hW, fun M h => ?_, fun M h => ?_⟩
    · have kn : M 1 7 = nI (S 0 0 0) := h.1.1 0 (by decide)
      have kl : M 1 8 = nI (S 0 0 1) := h.1.1 1 (by decide)
      refine eX9_heels M _ _ (bX9_heels_0 M _ _ ?_)
      rw [kn, kl]
      exact ⟨fun z => ⟨_, rfl, rfl, FrM.rf M, h⟩, fun c1 => ⟨fun c2 => absurd ⟨c1, c2⟩ hc, fun z => ⟨_, rfl, rfl, FrM.rf M, h⟩⟩⟩
    · have kn : M 77 0 = nI (S 0 0 0) := h.1.1 0 (by decide)
      have kl : M 77 1 = nI (S 0 0 1) := h.1.1 1 (by decide)
      refine eX10_heels M _ _ (bX10_heels_0 M _ _ ?_)
      rw [kn, kl]
      exact ⟨fun z => ⟨_, rfl, rfl, FrC.rf M, h⟩, fun c1 => ⟨fun c2 => absurd ⟨c1, c2⟩ hc, fun z => ⟨_, rfl, rfl, FrC.rf M, h⟩⟩⟩
theorem live_wf {s : VD} (h : WFV s) {l : Nat} (hl : l ≤ s 0 1) : WFV (wrN s 0 1 l) := by
  obtain ⟨h1, h2, h3⟩ := h
  exact ⟨h1, Nat.lt_of_le_of_lt hl h2, h3⟩
theorem op_dies {S : SS} (hW : WF S) (x1 : Int32) : Op S iX9_dies iX10_dies [.int x1] := by
  have hs := hW.1
  have hl := hs.live
  by_cases c1 : ¬ livV (nI (S 0 0 0)) (nI (S 0 0 1)) x1 = 0
  · obtain ⟨a1, a2, a3⟩ := liv_nI hs.1 (by omega) c1
    have hn := hs.1
    refine ⟨1, setS S 0 (wrN (S 0) 0 1 (sd (S 0 0 1) (2 ^ ix x1))), hW.v0 (live_wf hs (sd_le _ _)), fun M h => ?_, fun M h => ?_⟩
    · have kn : M 1 7 = nI (S 0 0 0) := h.1.1 0 (by decide)
      have kl : M 1 8 = nI (S 0 0 1) := h.1.1 1 (by decide)
      refine eX9_dies M _ (bX9_dies_0 M _ ?_)
      rw [kn, kl]
      refine ⟨fun _ => ⟨_, rfl, rfl, (FrM.rf M).wr _ (by omega), ?_⟩, fun z => absurd z c1⟩
      have e : nI (S 0 0 1) &&& (((1 : Int32) <<< (x1 &&& 31)) ^^^ (-1)) = nI (sd (S 0 0 1) (2 ^ ix x1)) := by
        conv => lhs; rw [a3]
        exact sd1 (by omega)
      rw [e]
      exact h.v0 (h.1.sc (i := 1) (by decide) (sd (S 0 0 1) (2 ^ ix x1))) (fun k hk _ => wr_off (by omega))
    · have kn : M 77 0 = nI (S 0 0 0) := h.1.1 0 (by decide)
      have kl : M 77 1 = nI (S 0 0 1) := h.1.1 1 (by decide)
      refine eX10_dies M _ (bX10_dies_0 M _ ?_)
      rw [kn, kl]
      refine ⟨fun _ => ⟨_, rfl, rfl, (FrC.rf M).wr _ (by omega), ?_⟩, fun z => absurd z c1⟩
      have e : nI (S 0 0 1) &&& (((1 : Int32) <<< (x1 &&& 31)) ^^^ (-1)) = nI (sd (S 0 0 1) (2 ^ ix x1)) := by
        conv => lhs; rw [a3]
        exact sd1 (by omega)
      rw [e]
      exact h.v0 (ks := []) (js := [1]) (h.1.sc (i := 1) (by decide) (sd (S 0 0 1) (2 ^ ix x1))) (Fr.rf.wo 1 _ (by decide)) rfl rfl
  · refine ⟨0, S, hW, fun M h => ?_, fun M h => ?_⟩
    · have kn : M 1 7 = nI (S 0 0 0) := h.1.1 0 (by decide)
      have kl : M 1 8 = nI (S 0 0 1) := h.1.1 1 (by decide)
      refine eX9_dies M _ (bX9_dies_0 M _ ?_)
      rw [kn, kl]
      exact ⟨fun z => absurd z c1, fun z => ⟨_, rfl, rfl, FrM.rf M, h⟩⟩
    · have kn : M 77 0 = nI (S 0 0 0) := h.1.1 0 (by decide)
      have kl : M 77 1 = nI (S 0 0 1) := h.1.1 1 (by decide)
      refine eX10_dies M _ (bX10_dies_0 M _ ?_)
      rw [kn, kl]
      exact ⟨fun z => absurd z c1, fun z => ⟨_, rfl, rfl, FrC.rf M, h⟩⟩
/-- an oath more -/
def addO (s : VD) (p : Nat) : VD := wrN (wrN (wrN s 6 (s 0 2) p) 7 (s 0 2) (2 ^ p)) 0 2 (s 0 2 + 1)
theorem addO_wf {s : VD} (h : WFV s) {p : Nat} (hp : p < s 0 0) (hm : s 0 2 < 12) : WFV (addO s p) := by
  obtain ⟨h1, h2, h3, h4, h5, h6, h7, h8⟩ := h
  refine ⟨h1, h2, (show s 0 2 + 1 ≤ 12 by omega), h4, h5, h6, h7, fun o ho => ?_⟩
  have ho : o < s 0 2 + 1 := ho
  by_cases z : o = s 0 2
  · subst z
    have e6 : addO s p 6 (s 0 2) = p := by simp [addO, wrN]
    have e7 : addO s p 7 (s 0 2) = 2 ^ p := by simp [addO, wrN]
    rw [e6, e7]
    exact ⟨hp, p2_lt hp, by rw [p2_bit]; simp⟩
  · have e6 : addO s p 6 o = s 6 o := by simp [addO, wrN, z]
    have e7 : addO s p 7 o = s 7 o := by simp [addO, wrN, z]
    rw [e6, e7]
    exact h8 o (by omega)
theorem op_oath {S : SS} (hW : WF S) (x1 x2 : Int32) : Op S iX9_oath iX10_oath [.int x1, .int x2] := by
  have hs := hW.1
  have hl := hs.live
  have hn := hs.1
  have hm := hs.2.2.1
  by_cases hc : ¬ livV (nI (S 0 0 0)) (nI (S 0 0 1)) x1 = 0 ∧ ¬ inV x2 0 3 = 0 ∧ S 0 0 2 < 12
  · obtain ⟨c1, c2, c3⟩ := hc
    obtain ⟨a1, a2, a3⟩ := liv_nI hs.1 (by omega) c1
    have e : (1 : Int32) <<< (x1 &&& 31) = nI (2 ^ ix x1) := by
      conv => lhs; rw [a3]
      exact shl1 _ (by omega)
    refine ⟨nI (S 0 0 2), setS S 0 (addO (S 0) (ix x1)), hW.v0 (addO_wf hs a1 c3), fun M h => ?_, fun M h => ?_⟩
    · have kn : M 1 7 = nI (S 0 0 0) := h.1.1 0 (by decide)
      have kl : M 1 8 = nI (S 0 0 1) := h.1.1 1 (by decide)
      have km : M 1 9 = nI (S 0 0 2) := h.1.1 2 (by decide)
      refine eX9_oath M _ _ (bX9_oath_0 M _ _ ?_)
      rw [kn, kl, km]
      refine ⟨fun z => absurd z c1, fun _ => ⟨fun z => absurd z c2, fun _ => bq_lt _ 12 rfl rfl (by omega) (by omega) (fun _ => ?_) (fun z => by omega)⟩⟩
      have vi : vp_in (M 1 9) 12 := vp_n _ km c3 (by decide)
      refine eX8_addOath_1 M _ (bX8_addOath_1_0 M _ ⟨vi, vi, _, rfl, _, rfl, km, (((FrM.rf M).wr _ (by omega)).wr _ (by omega)).wr _ (by omega), ?_⟩)
      rw [km, ix_nI (by omega), nI_1, e]
      have q := ((h.1.rw (r := 6) (by decide) (by decide) (S 0 0 2) (ix x1)).rw (r := 7) (by decide) (by decide) (S 0 0 2) (2 ^ ix x1)).sc (i := 2) (by decide) (S 0 0 2 + 1)
      rw [← a3] at q
      exact h.v0 q (fun k hk _ => by rw [wr_off (by omega), wr_off (by omega), wr_off (by omega)])
    · have kn : M 77 0 = nI (S 0 0 0) := h.1.1 0 (by decide)
      have kl : M 77 1 = nI (S 0 0 1) := h.1.1 1 (by decide)
      have km : M 77 34 = nI (S 0 0 2) := h.1.1 2 (by decide)
      refine eX10_oath M _ _ (bX10_oath_0 M _ _ ?_)
      rw [kn, kl]
      have vi : vp_in (M 77 34) 12 := vp_n _ km c3 (by decide)
      refine ⟨fun z => absurd z c1, fun _ => ⟨fun z => absurd z c2, fun _ => ⟨fun _ => ⟨vi, vi, vi, _, rfl, ?_, ((((FrC.rf M).wr _ (by omega)).wr _ (by omega)).wr _ (by omega)).wr _ (by omega), ?_⟩, fun z => by rw [km] at z; have := (nI_eq (b := 12) (by omega) (by omega)).mp z; omega⟩⟩⟩
      · rw [km, nI_1, nI_pred]
      · rw [km, ix_nI (by omega), nI_1, e]
        have q0 : VM (wr (wr M 99 (S 0 0 2) (nI (ix x1))) 100 (S 0 0 2) x2) (wrN (S 0) 6 (S 0 0 2) (ix x1)) := VM.fr (ks := [100]) (js := []) (h.1.rw (r := 6) (by decide) (by decide) (S 0 0 2) (ix x1)) (Fr.rf.w 100 _ _ (by decide) (by decide)) rfl rfl
        have q := (q0.rw (r := 7) (by decide) (by decide) (S 0 0 2) (2 ^ ix x1)).sc (i := 2) (by decide) (S 0 0 2 + 1)
        rw [← a3] at q
        exact h.v0 (ks := [99, 100, 101]) (js := [34]) q ((((Fr.rf.w 99 _ _ (by decide) (by decide)).w 100 _ _ (by decide) (by decide)).w 101 _ _ (by decide) (by decide)).wo 34 _ (by decide)) rfl rfl
  · refine ⟨-1, S, hW, fun M h => ?_, fun M h => ?_⟩
    · have kn : M 1 7 = nI (S 0 0 0) := h.1.1 0 (by decide)
      have kl : M 1 8 = nI (S 0 0 1) := h.1.1 1 (by decide)
      have km : M 1 9 = nI (S 0 0 2) := h.1.1 2 (by decide)
      refine eX9_oath M _ _ (bX9_oath_0 M _ _ ?_)
      rw [kn, kl, km]
      exact ⟨fun z => ⟨_, rfl, rfl, FrM.rf M, h⟩, fun c1 => ⟨fun z => ⟨_, rfl, rfl, FrM.rf M, h⟩, fun c2 => bq_lt _ 12 rfl rfl (by omega) (by omega) (fun z => absurd ⟨c1, c2, z⟩ hc) (fun z => ⟨_, rfl, rfl, FrM.rf M, h⟩)⟩⟩
    · have kn : M 77 0 = nI (S 0 0 0) := h.1.1 0 (by decide)
      have kl : M 77 1 = nI (S 0 0 1) := h.1.1 1 (by decide)
      have km : M 77 34 = nI (S 0 0 2) := h.1.1 2 (by decide)
      refine eX10_oath M _ _ (bX10_oath_0 M _ _ ?_)
      rw [kn, kl]
      refine ⟨fun z => ⟨_, rfl, rfl, FrC.rf M, h⟩, fun c1 => ⟨fun z => ⟨_, rfl, rfl, FrC.rf M, h⟩, fun c2 => ⟨fun z => absurd ⟨c1, c2, ?_⟩ hc, fun z => ⟨_, rfl, rfl, FrC.rf M, h⟩⟩⟩⟩
      rcases Nat.lt_or_ge (S 0 0 2) 12 with q | q
      · exact q
      · exact absurd (by rw [km, show S 0 0 2 = 12 by omega]; rfl) z
theorem seed_wf {s : VD} (h : WFV s) {x : Nat} (hx : x < 65536) : WFV (wrN s 0 4 x) := by
  obtain ⟨h1, h2, h3, h4, h5, h6⟩ := h
  exact ⟨h1, h2, h3, h4, hx, h6⟩
theorem op_seed {S : SS} (hW : WF S) (x1 : Int32) : Op S iX9_seed iX10_seed [.int x1] := by
  have hs := hW.1
  by_cases c1 : ¬ inV x1 0 65535 = 0
  · obtain ⟨b1, b2, b3⟩ := in_nI 0 65535 (by omega) (by omega) c1
    refine ⟨1, setS S 0 (wrN (S 0) 0 4 (ix x1)), hW.v0 (seed_wf hs (by omega)), fun M h => ?_, fun M h => ?_⟩
    · refine eX9_seed M _ (bX9_seed_0 M _ ⟨fun _ => ⟨_, rfl, rfl, (FrM.rf M).wr _ (by omega), ?_⟩, fun z => absurd z c1⟩)
      have q := h.1.sc (i := 4) (by decide) (ix x1)
      rw [← b3] at q
      exact h.v0 q (fun k hk _ => wr_off (by omega))
    · refine eX10_seed M _ (bX10_seed_0 M _ ⟨fun _ => ⟨_, rfl, rfl, (FrC.rf M).wr _ (by omega), ?_⟩, fun z => absurd z c1⟩)
      have q := h.1.sc (i := 4) (by decide) (ix x1)
      rw [← b3] at q
      exact h.v0 (ks := []) (js := [3]) q (Fr.rf.wo 3 _ (by decide)) rfl rfl
  · refine ⟨0, S, hW, fun M h => ?_, fun M h => ?_⟩
    · exact eX9_seed M _ (bX9_seed_0 M _ ⟨fun z => absurd z c1, fun z => ⟨_, rfl, rfl, FrM.rf M, h⟩⟩)
    · exact eX10_seed M _ (bX10_seed_0 M _ ⟨fun z => absurd z c1, fun z => ⟨_, rfl, rfl, FrC.rf M, h⟩⟩)
theorem op_tall {S : SS} (hW : WF S) (x1 : Int32) : Op S iX9_tall iX10_tall [.int x1] := by
  have hs := hW.1
  have hn := hs.1
  by_cases c1 : ¬ isPV (nI (S 0 0 0)) x1 = 0
  · obtain ⟨a1, a2⟩ := isP_nI (by omega) c1
    refine ⟨nI (tallS (S 0) (ix x1)), S, hW, fun M h => ?_, fun M h => ?_⟩
    · have kn : M 1 7 = nI (S 0 0 0) := h.1.1 0 (by decide)
      refine eX9_tall M _ (bX9_tall_0 M _ ?_)
      rw [kn]
      refine ⟨fun z => absurd z c1, fun _ => ?_⟩
      have q := c_heightOf (d := 58) isV_1 hs h.1 (p := ix x1) (by omega)
      rw [← a2] at q
      exact q.i ⟨_, rfl, rfl, FrM.rf M, h⟩
    · have kn : M 77 0 = nI (S 0 0 0) := h.1.1 0 (by decide)
      refine eX10_tall M _ (bX10_tall_0 M _ ?_)
      rw [kn]
      refine ⟨fun z => absurd z c1, fun _ => ?_⟩
      have q := c_tallOf (d := 59) hs h.1 (p := ix x1) (by omega)
      rw [← a2] at q
      exact q.i ⟨_, rfl, rfl, FrC.rf M, h⟩
  · refine ⟨-1, S, hW, fun M h => ?_, fun M h => ?_⟩
    · have kn : M 1 7 = nI (S 0 0 0) := h.1.1 0 (by decide)
      refine eX9_tall M _ (bX9_tall_0 M _ ?_)
      rw [kn]
      exact ⟨fun z => ⟨_, rfl, rfl, FrM.rf M, h⟩, fun z => absurd z c1⟩
    · have kn : M 77 0 = nI (S 0 0 0) := h.1.1 0 (by decide)
      refine eX10_tall M _ (bX10_tall_0 M _ ?_)
      rw [kn]
      exact ⟨fun z => ⟨_, rfl, rfl, FrC.rf M, h⟩, fun z => absurd z c1⟩
theorem op_top {S : SS} (hW : WF S) : Op S iX9_top iX10_top [] := by
  have hs := hW.1
  refine ⟨tvI (topS (S 0)), S, hW, fun M h => ?_, fun M h => ?_⟩
  · exact eX9_top M (bX9_top_0 M ((c_tallestOne isV_1 hs h.1).i ⟨_, rfl, rfl, FrM.rf M, h⟩))
  · exact eX10_top M (bX10_top_0 M ((c_topOf hs h.1).i ⟨_, rfl, rfl, FrC.rf M, h⟩))
