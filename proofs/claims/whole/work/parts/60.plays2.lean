theorem plV_R {s l : VD} (hs : WFV s) {h : Nat → Nat → Nat} {n c m t : Nat} : ∀ k, plV s l h n c m t (s 0 0 + k) = plV s l h n c m t (s 0 0)
  | 0 => rfl
  | k + 1 => by
    have ih := plV_R hs (l := l) (h := h) (n := n) (c := c) (m := m) (t := t) k
    have no : okP s l m t (s 0 0 + k) = false := by
      rw [okP, decide_eq_false, Bool.and_false]
      intro w
      refine w ((lbN_far hs _).mpr (fun a _ _ => ?_))
      cases e : EB s l a (s 0 0 + k) with
      | false => rfl
      | true => have := (EB_lt hs e).2; omega
    show (if okP s l m t (s 0 0 + k) = true ∧ (plV s l h n c m t (s 0 0 + k)).1 < _ then _ else plV s l h n c m t (s 0 0 + k)) = _
    rw [if_neg (fun w => by rw [no] at w; exact absurd w.1 (by decide)), ih]
theorem playsStep (d N a b : Nat) (s l : VD) (hs : WFV s) (ha : a < s 0 2) (hb : b < s 0 2) (hN : N ≤ 4) (hv : Nat → Nat → Nat) (hh : ∀ c x, hv c x ≤ 1 ∧ (hv c x = 1 ↔ HS s l (if c = 0 then s 6 a else s 6 b) x)) (Q : Option Int32 → Mem → Prop) (n t A B : Nat) (M : Mem) (eN : t + (n + 1) = N) (h : VM M s) (hA : ASK M s l) (hAl : A < 65536) (hBl : B < 65536) (k6 : M 106 t = -2) (k7 : M 107 t = 1000000000) (k8 : M 108 t = nI A) (k9 : M 109 t = nI B) (K : ∀ M', FP t M M' → M' 106 t = cI (s 0 0) → M' 107 t = avI (t % 2) (plV s l hv n (t % 2) (mi (t % 2) A B) (mi (t % 2) B A) 16).1 → (t = 0 → M' 77 49 = cI (plV s l hv n (t % 2) (mi (t % 2) A B) (mi (t % 2) B A) 16).2) → AX10_plays (d + 4) Q 44 [lR 77, lI (nI a), lI (nI b), lI (nI N), lI (nI t)] [] M') (IH : ∀ n', n = n' + 1 → ∀ (t A B : Nat) (M : Mem), t + (n' + 1) = N → VM M s → ASK M s l → A < 65536 → B < 65536 → M 106 t = -2 → M 107 t = 1000000000 → M 108 t = nI A → M 109 t = nI B → (∀ M', FP t M M' → M' 106 t = cI (s 0 0) → M' 107 t = avI (t % 2) (plV s l hv n' (t % 2) (mi (t % 2) A B) (mi (t % 2) B A) 16).1 → (t = 0 → M' 77 49 = cI (plV s l hv n' (t % 2) (mi (t % 2) A B) (mi (t % 2) B A) 16).2) → AX10_plays (d + 4) Q 44 [lR 77, lI (nI a), lI (nI b), lI (nI N), lI (nI t)] [] M') → AX10_plays (d + 4) Q 44 [lR 77, lI (nI a), lI (nI b), lI (nI N), lI (nI t)] [] M) : AX10_plays (d + 4) Q 44 [lR 77, lI (nI a), lI (nI b), lI (nI N), lI (nI t)] [] M := by
  have hn := hs.1
  have hl : ∀ n c m t, pvN s l hv n c m t ≤ 2 := pv_le (fun c x => (hh c x).1)
  have vt : vp_in (nI t) 5 := vp_in_nI (by omega) (by decide)
  have vt1 : vp_in (nI (t + 1)) 5 := vp_in_nI (by omega) (by decide)
  have c1 : t % 2 ≤ 1 := by omega
  have cc : (t + 1) % 2 = 1 - t % 2 := by omega
  generalize hP : plV s l hv n (t % 2) (mi (t % 2) A B) (mi (t % 2) B A) = P at K
  have P0 : P 0 = (2 - pvN s l hv n (1 - t % 2) (mi (t % 2) B A) (mi (t % 2) A B), 0) := by rw [← hP]; rfl
  have Ps : ∀ p, P (p + 1) = if okP s l (mi (t % 2) A B) (mi (t % 2) B A) p = true ∧ (P p).1 < 2 - pvN s l hv n (1 - t % 2) (mi (t % 2) B A) (mi (t % 2) A B ||| 2 ^ p) then (2 - pvN s l hv n (1 - t % 2) (mi (t % 2) B A) (mi (t % 2) A B ||| 2 ^ p), p + 1) else P p := fun p => by rw [← hP]; rfl
  have Pl : ∀ p, (P p).1 ≤ 2 := fun p => by rw [← hP]; exact (plF_le (by omega) (fun p => by show 2 - _ ≤ 2; omega) p).1
  have P16 : P 16 = P (s 0 0) := by
    rw [← hP]
    have := plV_R hs (l := l) (h := hv) (n := n) (c := t % 2) (m := mi (t % 2) A B) (t := mi (t % 2) B A) (16 - s 0 0)
    rw [Nat.add_sub_cancel' hn] at this
    exact this
  -- the loop over the choices
  refine up_loop (P := fun u => ∀ M', FP t M M' → M' 106 t = cI u - 1 → (u = 0 → M' 107 t = 1000000000) → (∀ p, u = p + 1 → M' 107 t = avI (t % 2) (P p).1 ∧ (t = 0 → M' 77 49 = cI (P p).2)) → AX10_plays (d + 4) Q 44 [lR 77, lI (nI a), lI (nI b), lI (nI N), lI (nI t)] [] M') (s 0 0 + 1) 0 (by omega) ?_ ?_ M FP.rf (by rw [k6]; decide) (fun _ => k7) (fun p e => by omega)
  · intro M' g f6 _ f7
    obtain ⟨w1, w2⟩ := f7 (s 0 0) rfl
    have e6 : M' 106 t = cI (s 0 0) := by rw [f6, cI, nI_pred]; rfl
    rw [← P16] at w1 w2
    exact K M' g e6 w1 w2
  · intro u _ hu ih M' g f6 f0 f7
    have hV : VM M' s := VRel.cg h (fun i hi => g.2.1 _ (by revert hi; revert i; decide)) (fun r q1 q2 => g.1 _ (by revert q2; revert q1; revert r; decide) (by revert q2; revert q1; revert r; decide))
    have kn : M' 77 0 = nI (s 0 0) := hV.1 0 (by decide)
    have eu : cI u - 1 + 1 = cI u := Int32.sub_add_cancel _ _
    refine bX10_plays_44 M' _ _ _ _ ⟨fun z => absurd z (Int32.not_lt.mpr (nI_pos' (by omega))), fun _ => ⟨vt, vt, vt, ?_⟩⟩
    rw [ix_nI (n := t) (by omega), f6, eu, wr_same, kn, nI_1 t]
    refine ⟨fun _ => ⟨vt, ?_⟩, fun z => absurd (cI_lt (by omega) hn) z⟩
    generalize hM2 : wr M' 106 t (cI u) = M2
    have g2 : FP t M M2 := by rw [← hM2]; exact g.w6 _ (Nat.le_refl _)
    have r2 : ∀ k, k ≠ 106 → M2 k = M' k := fun k hk => by rw [← hM2]; exact wr_row hk
    have s6 : M2 106 t = cI u := by rw [← hM2]; exact wr_same _ _ _ _
    have hV2 : VM M2 s := hV.off8 (fun k hk => r2 k (by omega))
    have hA2 : ASK M2 s l := fun x y q1 q2 => by rw [r2 98 (by omega), g.1 98 (by omega) (by omega)]; exact hA x y q1 q2
    have s8 : M2 108 t = nI A := by rw [(g2.2.2.2.2 t (Nat.le_refl _)).1]; exact k8
    have s9 : M2 109 t = nI B := by rw [(g2.2.2.2.2 t (Nat.le_refl _)).2]; exact k9
    refine (c_canChoose (d := d + 1) hs hV2 hA2 (show t < 4 by omega) s8 s9 hAl hBl (show u ≤ s 0 0 by omega)).mono (fun r M3 hr => ?_)
    obtain ⟨q1, q2, q3⟩ := hr
    have g3 : FP t M M3 := g2.tr ⟨fun k w1 _ => q1 k (by omega) (by omega), fun j _ => by rw [q1 77 (by omega) (by omega)], fun _ => by rw [q1 77 (by omega) (by omega)], fun j _ => by rw [q1 106 (by omega) (by omega), q1 107 (by omega) (by omega)]; exact ⟨rfl, rfl⟩, fun j hj => q2 j (by omega)⟩
    have t6 : M3 106 t = cI (u + 1) - 1 := by rw [q1 106 (by omega) (by omega), s6, ← cI_s]; exact (Int32.add_sub_cancel _ _).symm
    have t7 : M3 107 t = M' 107 t := by rw [q1 107 (by omega) (by omega), r2 107 (by omega)]
    have t49 : M3 77 49 = M' 77 49 := by rw [q1 77 (by omega) (by omega), r2 77 (by omega)]
    rcases q3 with ⟨rfl, p, rfl, ok⟩ | ⟨rfl, ok, n8, n9⟩
    · refine ⟨fun z => absurd rfl z, fun _ => ih M3 g3 t6 (fun e => by omega) (fun p' e => ?_)⟩
      have : p' = p + 1 := by omega
      subst this
      have := f7 p rfl
      rw [Ps p, if_neg (fun w => by rw [ok] at w; exact absurd w.1 (by decide)), t7, t49]
      exact this
    · refine ⟨fun _ => ?_, fun z => absurd z (by decide)⟩
      -- telling the worth of this choice
      have tell : ∀ (M4 : Mem) (w' : Nat), w' = 2 - pvN s l hv n (1 - t % 2) (mi (t % 2) B A) (mi (t % 2) (adN A u) (adN B u)) → FP t M M4 → M4 106 t = cI (u + 1) - 1 → M4 107 t = M' 107 t → M4 77 49 = M' 77 49 → AMv (d + 3) iX10_tells [.ref 77, .int (nI t), .int (avI (t % 2) w')] M4 (fun M5 => AX10_plays (d + 4) Q 44 [lR 77, lI (nI a), lI (nI b), lI (nI N), lI (nI t)] [] M5) := by
        intro M4 w' ew g4 z6 z7 z49
        have w2 : w' ≤ 2 := by rw [ew]; omega
        have up : P u = (w', u) → AX10_plays (d + 4) Q 44 [lR 77, lI (nI a), lI (nI b), lI (nI N), lI (nI t)] [] (if t = 0 then wr (wr M4 107 t (avI (t % 2) w')) 77 49 (M4 106 0) else wr M4 107 t (avI (t % 2) w')) := by
          intro eP
          by_cases t0 : t = 0
          · rw [if_pos t0]
            have g5 := g4.w7 (avI (t % 2) w') (Nat.le_refl t)
            refine ih _ ⟨fun k x1 x2 => (wr_row x2).trans (g5.1 k x1 x2), fun j x => by rw [wr_el x]; exact g5.2.1 j x, fun x => by omega, fun j x => by omega, fun j x => by rw [wr_row (by omega), wr_row (by omega)]; exact g5.2.2.2.2 j x⟩ (by rw [wr_row (by omega), wr_row (by omega)]; exact z6) (fun e => by omega) (fun p' e => ?_)
            have : p' = u := by omega
            subst this
            rw [eP]
            refine ⟨by rw [wr_row (by omega)]; exact wr_same _ _ _ _, fun _ => ?_⟩
            rw [wr_same, ← t0, z6, ← cI_s]
            exact Int32.add_sub_cancel _ _
          · rw [if_neg t0]
            refine ih _ (g4.w7 _ (Nat.le_refl t)) (by rw [wr_row (by omega)]; exact z6) (fun e => by omega) (fun p' e => ?_)
            have : p' = u := by omega
            subst this
            rw [eP]
            exact ⟨wr_same _ _ _ _, fun x => absurd x t0⟩
        cases u with
        | zero =>
          have e0 := f0 rfl
          refine c_tells (show t < 5 by omega) w2 ⟨fun _ => up (by rw [P0, ew]; rfl), fun w x1 x2 => ?_⟩ (Or.inl (by rw [z7]; exact e0))
          rw [z7, e0] at x2
          exact absurd x2.symm (av_far _ c1 w x1)
        | succ p =>
          obtain ⟨e7, e49⟩ := f7 p rfl
          have okp := ok p rfl
          have em : mi (t % 2) (adN A (p + 1)) (adN B (p + 1)) = mi (t % 2) A B ||| 2 ^ p := by
            rw [mi, mi]; split <;> rfl
          rw [em] at ew
          refine c_tells (show t < 5 by omega) w2 ⟨fun x => ?_, fun w x1 x2 => ?_⟩ (Or.inr ⟨(P p).1, Pl p, by rw [z7]; exact e7⟩)
          · rw [z7, e7] at x
            exact absurd x (av_far _ c1 _ (Pl p))
          · have ww : w = (P p).1 := by
              rw [z7, e7] at x2
              have c01 : t % 2 = 0 ∨ t % 2 = 1 := by omega
              rcases c01 with c0 | c0
              · rw [c0] at x2
                have l1 := (av_le0 (Pl p) x1).mp (by rw [x2]; exact Int32.le_refl _)
                have l2 := (av_le0 x1 (Pl p)).mp (by rw [x2]; exact Int32.le_refl _)
                omega
              · rw [c0] at x2
                have l1 := (av_le1 (Pl p) x1).mp (by rw [x2]; exact Int32.le_refl _)
                have l2 := (av_le1 x1 (Pl p)).mp (by rw [x2]; exact Int32.le_refl _)
                omega
            rw [ww]
            by_cases lt : (P p).1 < w'
            · rw [if_pos lt]
              exact up (by rw [Ps p, if_pos ⟨okp, by rw [← ew]; exact lt⟩, ew])
            · rw [if_neg lt]
              refine ih M4 g4 z6 (fun e => by omega) (fun p' e => ?_)
              have : p' = p + 1 := by omega
              subst this
              rw [Ps p, if_neg (fun x => lt (by rw [ew]; exact x.2)), z7, z49]
              exact ⟨e7, e49⟩
      have A16 : (if t % 2 = 0 then adN A u else A) < 65536 := by
        split
        · rw [adN]; split
          · exact hAl
          · exact or_lt (k := 16) hAl (p2_lt (by omega))
        · exact hAl
      have B16 : (if t % 2 = 0 then B else adN B u) < 65536 := by
        split
        · exact hBl
        · rw [adN]; split
          · exact hBl
          · exact or_lt (k := 16) hBl (p2_lt (by omega))
      have hV3 : VM M3 s := hV2.off8 (fun k hk => q1 k (by omega) (by omega))
      have hA3 : ASK M3 s l := fun x y x1 x2 => by rw [q1 98 (by omega) (by omega)]; exact hA2 x y x1 x2
      obtain ⟨w', mine⟩ : ∃ w', w' = 2 - pvN s l hv n (1 - t % 2) (mi (t % 2) B A) (mi (t % 2) (adN A u) (adN B u)) := ⟨_, rfl⟩
      refine bq_ne (t + 1) N rfl rfl (by omega) (by omega) (fun ne => ⟨vt1, vt1, ?_⟩) (fun e => ?_)
      · obtain ⟨n', rfl⟩ : ∃ n', n = n' + 1 := ⟨n - 1, by omega⟩
        rw [ix_nI (n := t + 1) (by omega)]
        have g4 : FP t M (wr (wr M3 106 (t + 1) (-2)) 107 (t + 1) 1000000000) := (g3.w6 _ (by omega)).w7 _ (by omega)
        have r4 : ∀ k, k ≠ 106 → k ≠ 107 → wr (wr M3 106 (t + 1) (-2)) 107 (t + 1) 1000000000 k = M3 k := fun k x1 x2 => by rw [wr_row x2, wr_row x1]
        have y6 : wr (wr M3 106 (t + 1) (-2)) 107 (t + 1) 1000000000 106 (t + 1) = -2 := by rw [wr_row (by omega)]; exact wr_same _ _ _ _
        have y6t : wr (wr M3 106 (t + 1) (-2)) 107 (t + 1) 1000000000 106 t = cI (u + 1) - 1 := by rw [wr_row (by omega), wr_el (by omega)]; exact t6
        have y7 : wr (wr M3 106 (t + 1) (-2)) 107 (t + 1) 1000000000 107 (t + 1) = 1000000000 := wr_same _ _ _ _
        have y7t : wr (wr M3 106 (t + 1) (-2)) 107 (t + 1) 1000000000 107 t = M' 107 t := by rw [wr_el (by omega), wr_row (by omega)]; exact t7
        generalize wr (wr M3 106 (t + 1) (-2)) 107 (t + 1) 1000000000 = M4 at g4 r4 y6 y6t y7 y7t
        refine IH n' rfl (t + 1) _ _ M4 (by omega) (hV3.off8 (fun k hk => r4 k (by omega) (by omega))) (fun x y x1 x2 => by rw [r4 98 (by omega) (by omega)]; exact hA3 x y x1 x2) A16 B16 y6 y7 (by rw [r4 108 (by omega) (by omega)]; exact n8) (by rw [r4 109 (by omega) (by omega)]; exact n9) (fun M5 g5 e6 e7 _ => ?_)
        obtain ⟨u5, u6, u7⟩ := g5.up
        have k5 : M5 77 0 = nI (s 0 0) := by rw [u5.2.1 0 (by omega), r4 77 (by omega) (by omega)]; exact hV3.1 0 (by decide)
        have e7' : M5 107 (t + 1) = avI (t % 2) w' := by
          have b1 : mi (1 - t % 2) (if t % 2 = 0 then adN A u else A) (if t % 2 = 0 then B else adN B u) = mi (t % 2) B A := by
            have c01 : t % 2 = 0 ∨ t % 2 = 1 := by omega
            rcases c01 with c0 | c0 <;> (rw [c0]; rfl)
          have b2 : mi (1 - t % 2) (if t % 2 = 0 then B else adN B u) (if t % 2 = 0 then adN A u else A) = mi (t % 2) (adN A u) (adN B u) := by
            have c01 : t % 2 = 0 ∨ t % 2 = 1 := by omega
            rcases c01 with c0 | c0 <;> (rw [c0]; rfl)
          rw [e7, cc, b1, b2, mine]
          exact av_flip _ c1 _ (hl (n' + 1) _ _ _)
        refine bX10_plays_44 M5 _ _ _ _ ⟨fun z => absurd z (Int32.not_lt.mpr (nI_pos' (by omega))), fun _ => ⟨vt1, vt1, vt1, ?_⟩⟩
        rw [ix_nI (n := t + 1) (by omega), e6, cI_s, wr_same, k5, nI_pred, nI_1 t, ix_nI (n := t + 1) (by omega), e7']
        refine ⟨fun z => absurd z (by rw [show cI (s 0 0 + 1) = nI (s 0 0) from nI_pred _]; exact fun w => Int32.lt_irrefl w), fun _ => ⟨fun z => absurd z (Int32.not_lt.mpr (nI_pos' (by omega))), fun _ => ⟨vt1, ?_⟩⟩⟩
        refine tell _ w' mine ((g4.tr u5).w6 _ (by omega)) (by rw [wr_el (by omega), u6]; exact y6t) (by rw [wr_row (by omega), u7]; exact y7t) ?_
        rw [wr_row (by omega), g5.2.2.1 (by omega), r4 77 (by omega) (by omega)]
        exact t49
      · have n0 : n = 0 := by omega
        subst n0
        refine (c_endsAs (d := d) hs hV3 hA3 ha hb (show N < 5 by omega) (by rw [← e]; exact n8) (by rw [← e]; exact n9) A16 B16 hh).i ?_
        have ev : cI (hv 0 (if t % 2 = 0 then adN A u else A) + 1 - hv 1 (if t % 2 = 0 then B else adN B u)) = avI (t % 2) w' := by
          rw [mine]
          have c01 : t % 2 = 0 ∨ t % 2 = 1 := by omega
          have h0 := fun x => (hh 0 x).1
          have h1 := fun x => (hh 1 x).1
          rcases c01 with c0 | c0
          · rw [c0, if_pos rfl, if_pos rfl]
            show cI _ = cI (2 - (hv 1 B + 1 - hv 0 (adN A u)))
            have := h0 (adN A u); have := h1 B
            exact congrArg cI (by omega)
          · rw [c0, if_neg (by decide), if_neg (by decide)]
            show cI _ = cI (2 - (2 - (hv 0 A + 1 - hv 1 (adN B u))))
            have := h0 A; have := h1 (adN B u)
            exact congrArg cI (by omega)
        rw [ev]
        exact tell M3 w' mine g3 t6 t7 t49
section PZ
variable {d N a b : Nat} {s l : VD}
theorem plays_lv (hs : WFV s) (ha : a < s 0 2) (hb : b < s 0 2) (hN : N ≤ 4) {hv : Nat → Nat → Nat} (hh : ∀ c x, hv c x ≤ 1 ∧ (hv c x = 1 ↔ HS s l (if c = 0 then s 6 a else s 6 b) x)) {Q : Option Int32 → Mem → Prop} : ∀ (n t A B : Nat) (M : Mem), t + (n + 1) = N → VM M s → ASK M s l → A < 65536 → B < 65536 → M 106 t = -2 → M 107 t = 1000000000 → M 108 t = nI A → M 109 t = nI B → (∀ M', FP t M M' → M' 106 t = cI (s 0 0) → M' 107 t = avI (t % 2) (plV s l hv n (t % 2) (mi (t % 2) A B) (mi (t % 2) B A) 16).1 → (t = 0 → M' 77 49 = cI (plV s l hv n (t % 2) (mi (t % 2) A B) (mi (t % 2) B A) 16).2) → AX10_plays (d + 4) Q 44 [lR 77, lI (nI a), lI (nI b), lI (nI N), lI (nI t)] [] M') → AX10_plays (d + 4) Q 44 [lR 77, lI (nI a), lI (nI b), lI (nI N), lI (nI t)] [] M := by
  have hn := hs.1
  have hl : ∀ n c m t, pvN s l hv n c m t ≤ 2 := pv_le (fun c x => (hh c x).1)
  intro n
  induction n with
  | zero =>
    intro t A B M e h hA hAl hBl k6 k7 k8 k9 K
    exact playsStep d N a b s l hs ha hb hN hv hh Q 0 t A B M e h hA hAl hBl k6 k7 k8 k9 K (fun n' e' => by omega)
  | succ n ih =>
    intro t A B M e h hA hAl hBl k6 k7 k8 k9 K
    refine playsStep d N a b s l hs ha hb hN hv hh Q (n + 1) t A B M e h hA hAl hBl k6 k7 k8 k9 K (fun n' e' => ?_)
    have : n' = n := by omega
    subst this
    exact ih
end PZ
