/-! CHAIN: the model's walk and the question -/
theorem c_chain121 {d o p k : Nat} {s l : VD} {M : Mem} {W : Nat → Nat} {Q : Option Int32 → Mem → Prop} (hs : WFV s) (h : VM M s) (hA : ASK M s l) (ho : o < s 0 2) (hW : ∀ a, W a = eqW s l (s 7 o) W a) (hw : WT M s W) (hp : p < s 0 0) (hf : ¬ W p = 1000000000) (hk : k ≤ W p % 32) (fin : Q (some (nI (pthN s l (s 7 o) W p k))) M) : AX10_chain (d + 3) Q 121 [lR 77, lI (nI o), lI (nI k), lI (nI p), none, lI 0, none] [] M := by
  have hn := hs.1
  have hO := hs.2.2.1
  have hT := hs.sworn ho
  have vo : vp_in (nI o) 12 := vp_in_nI (by omega) (by decide)
  have k7 : M 101 o = nI (s 7 o) := h.2 7 o (by decide) (by decide) (show o < 12 by omega)
  generalize s 7 o = T at hW hT k7 fin
  have Wl : ∀ a, W a ≤ 1000000000 := fun a => by have := W_sml hs hW a; omega
  have sm := W_sml hs hW p
  have pR : ∀ i, i ≤ W p % 32 → pthN s l T W p i < s 0 0 := by
    intro i hi
    cases i with
    | zero => exact hp
    | succ i =>
      obtain ⟨w1, w2, p16⟩ := pth_ok hs hW (show p < 16 by omega) hf i (by omega)
      have nt : ¬ pthN s l T W p i = topS s := fun e => by have := (pth_nt hs hW (show p < 16 by omega) hf (show i ≤ W p % 32 by omega)).mp e; omega
      have eW := W_mn hW nt
      rcases ft_at (s := s) (l := l) (T := T) W (pthN s l T W p i) 16 with w | ⟨_, v2, _⟩
      · omega
      · rcases wy_le (s := s) (l := l) (T := T) W (pthN s l T W p i) (ftTo s l T W (pthN s l T W p i) 16) with w3 | ⟨w3, _⟩
        · omega
        · exact (EB_lt hs w3).2
  refine up_loop (P := fun i => AX10_chain (d + 3) Q 121 [lR 77, lI (nI o), lI (nI k), lI (nI (pthN s l T W p i)), none, lI (nI i), none] [] M) k 0 (by omega) ?_ ?_
  · exact bX10_chain_121 M _ _ _ _ (bq_le _ _ rfl rfl (by omega) (by omega) (fun _ => fin) (fun z => by omega))
  · intro i _ hi ih
    refine bX10_chain_121 M _ _ _ _ (bq_le _ _ rfl rfl (by omega) (by omega) (fun z => by omega) (fun _ => ?_))
    obtain ⟨w1, w2, p16⟩ := pth_ok hs hW (show p < 16 by omega) hf i (by omega)
    have nt : ¬ pthN s l T W p i = topS s := fun e => by have := (pth_nt hs hW (show p < 16 by omega) hf (show i ≤ W p % 32 by omega)).mp e; omega
    have pl := pR i (by omega)
    have pl2 := pR (i + 1) (by omega)
    have eN : pthN s l T W p (i + 1) = ftTo s l T W (pthN s l T W p i) 16 := rfl
    rw [eN] at ih pl2
    generalize pthN s l T W p i = q at w1 nt pl p16 ih pl2
    have eW := W_mn hW nt
    rcases ft_at (s := s) (l := l) (T := T) W q 16 with w | ⟨v1, v2, v3⟩
    · omega
    · have vq : vp_in (nI q) 16 := vp_in_nI p16 (by decide)
      have wb : ∀ b, wyN s l T W q b < 2 ^ 31 := fun b => by
        rcases wy_le (s := s) (l := l) (T := T) W q b with z | ⟨z1, z2, z3⟩
        · omega
        · have := ak_le (T := T) hs z1; omega
      have wq := Wl q
      refine up_loop (P := fun b => AX10_chain (d + 3) Q 130 [lR 77, lI (nI o), lI (nI k), lI (nI q), none, lI (nI i), lI (nI b)] [] M) (ftTo s l T W q 16) 0 (by omega) ?_ ?_
      · refine bX10_chain_130 M _ _ _ _ _ ⟨vo, ?_⟩
        rw [ix_nI (n := o) (by omega), k7]
        refine (c_wayBy hs hA hw Wl (by omega) pl pl2).i ⟨vq, ?_⟩
        rw [ix_nI (n := q) (by omega), hw q pl, nI_1 i]
        exact bq_eq _ _ rfl rfl (wb _) (by omega) (fun _ => ih) (fun z => absurd (v2.trans eW.symm) z)
      · intro b _ hb ih2
        refine bX10_chain_130 M _ _ _ _ _ ⟨vo, ?_⟩
        rw [ix_nI (n := o) (by omega), k7]
        refine (c_wayBy hs hA hw Wl (by omega) pl (show b < s 0 0 by omega)).i ⟨vq, ?_⟩
        rw [ix_nI (n := q) (by omega), hw q pl, nI_1 b]
        exact bq_eq _ _ rfl rfl (wb _) (by omega) (fun z => absurd (z.trans eW) (v3 b hb)) (fun _ => ih2)
theorem in_m1 {x : Int32} (h : ¬ inV x (-1) 16 = 0) : x = -1 ∨ ∃ k, k ≤ 16 ∧ x = nI k := by
  have w := inV_1.mp h
  by_cases z : x < 0
  · left
    have a1 := Int32.le_iff_toInt_le.mp w.1
    have a2 := Int32.lt_iff_toInt_lt.mp z
    have e1 : Int32.toInt (-1) = -1 := by decide
    have e2 : Int32.toInt 0 = 0 := by decide
    rw [e1] at a1
    rw [e2] at a2
    exact Int32.toInt_inj.mp (by rw [e1]; omega)
  · right
    obtain ⟨j, hj, e⟩ := nI_of2 (M := 16) (n := 16) (by decide) z w.2
    exact ⟨j, hj, e⟩
theorem op_chain {S : SS} (hW : WF S) (x1 x2 : Int32) : Op S iX9_chain iX10_chain [.int x1, .int x2] := by
  have hs := hW.1
  have hn := hs.1
  have hO := hs.2.2.1
  have hlv := hs.live
  by_cases c1 : ¬ isPV (nI (S 0 0 2)) x1 = 0 ∧ ¬ inV x2 (-1) 16 = 0
  · obtain ⟨q1, q2⟩ := c1
    obtain ⟨a1, a2⟩ := isP_nI (by omega) q1
    generalize ix x1 = o at a1 a2
    subst a2
    have wo := hs.2.2.2.2.2.2.2 o a1
    have ws := hs.sworn a1
    have vo : vp_in (nI o) 12 := vp_in_nI (by omega) (by decide)
    obtain ⟨W, hWW⟩ := W_ex (l := S 2) (T := S 0 7 o) hs
    have sm := W_sml hs hWW (S 0 6 o)
    obtain ⟨X, hX1, hX2, hX3, hX4⟩ : ∃ X : Int32, (W (S 0 6 o) = 1000000000 → X = -2) ∧ (¬ W (S 0 6 o) = 1000000000 → x2 = -1 → X = nI (W (S 0 6 o) / 32)) ∧ (¬ W (S 0 6 o) = 1000000000 → x2 = 16 → X = nI (W (S 0 6 o) % 32 + 1)) ∧ (∀ k, k < 16 → ¬ W (S 0 6 o) = 1000000000 → x2 = nI k → X = if k ≤ W (S 0 6 o) % 32 then nI (pthN (S 0) (S 2) (S 0 7 o) W (S 0 6 o) k) else -3) := by
      by_cases z : W (S 0 6 o) = 1000000000
      · exact ⟨-2, fun _ => rfl, fun w => absurd z w, fun w => absurd z w, fun _ _ w => absurd z w⟩
      · rcases in_m1 q2 with e | ⟨k, k1, e⟩
        · refine ⟨nI (W (S 0 6 o) / 32), fun w => absurd w z, fun _ _ => rfl, fun _ w => absurd (e.symm.trans w) (by decide), fun k k1 _ w => absurd (e.symm.trans w).symm (nI_nm1 (by omega))⟩
        · by_cases k16 : k = 16
          · refine ⟨nI (W (S 0 6 o) % 32 + 1), fun w => absurd w z, fun _ w => absurd (e.symm.trans w) (nI_nm1 (by omega)), fun _ _ => rfl, fun j j1 _ w => ?_⟩
            have := (nI_inj32 (by omega) (by omega)).mp (e.symm.trans w)
            omega
          · refine ⟨if k ≤ W (S 0 6 o) % 32 then nI (pthN (S 0) (S 2) (S 0 7 o) W (S 0 6 o) k) else -3, fun w => absurd w z, fun _ w => absurd (e.symm.trans w) (nI_nm1 (by omega)), fun _ w => ?_, fun j j1 _ w => ?_⟩
            · have := (nI_inj32 (b := 16) (by omega) (by omega)).mp (e.symm.trans w)
              omega
            · have := (nI_inj32 (by omega) (by omega)).mp (e.symm.trans w)
              rw [this]
    refine ⟨X, S, hW, fun M h => ?_, fun M h => ?_⟩
    · have kn : M 1 9 = nI (S 0 0 2) := h.1.1 2 (by decide)
      refine eX9_chain M _ _ (bX9_chain_0 M _ _ ?_)
      rw [kn]
      refine ⟨fun z => absurd z q1, fun _ => ⟨fun _ => ?_, fun z => absurd z q2⟩⟩
      refine (c_reckonC (d := 55) vS_1 aS_37 hs hW.l0 h.1 h.l0).mono (fun M1 h1 => (c_reckonPrices (d := 55) vS_1 aS_37 hs hW.l0 h1.1).mono (fun M2 h2 => ⟨vo, vo, ?_⟩))
      have k6 : M2 7 o = nI (S 0 6 o) := h2.1.1.2.2.1.2 6 o (by decide) (by decide) (show o < 12 by omega)
      have k7 : M2 8 o = nI (S 0 7 o) := h2.1.1.2.2.1.2 7 o (by decide) (by decide) (show o < 12 by omega)
      rw [ix_nI (by omega), k6, k7]
      refine (c_searchC (d := 56) vS_1 aS_37 hs h2.1 h2.2.1 (by omega) (by omega) hWW).mono (fun r M3 hr => ?_)
      obtain ⟨rfl, k4, rows, g3⟩ := hr
      have f2 : SF 37 M M2 := h1.2.tr h2.2.2
      have fM : FrM M M3 := fun k hk => (g3 k (by omega)).trans (f2.high aS_37 k hk)
      have hC : RC M3 S := by
        have h' := h.sf aS_37 f2
        exact h'.cg (fun k hk => g3 k (by unfold PCr at hk; omega)) (h'.2.2.2.2.2.2.cg (g3 11 (by omega)) (g3 22 (by omega)) (g3 33 (by omega)))
      have vp' : vp_in (nI (S 0 6 o)) 16 := vp_in_nI (by omega) (by decide)
      have rp := rows (S 0 6 o) (by omega)
      by_cases z : W (S 0 6 o) = 1000000000
      · rw [if_pos z]
        exact ⟨fun w => absurd rfl w, fun _ => ⟨_, rfl, (hX1 z).symm, fM, hC⟩⟩
      · rw [if_neg z]
        refine ⟨fun _ => ⟨fun w1 => ⟨fun w2 => ?_, fun w2 => ?_⟩, fun w1 => ?_⟩, fun w => absurd w (by decide)⟩
        · rcases in_m1 q2 with e | ⟨k, k1, rfl⟩
          · exact absurd e w1
          · have k16 : k < 16 := by
              by_cases e : k = 16
              · rw [e] at w2; exact absurd rfl w2
              · omega
            exact (c_personAt (d := 59) hs hWW (by omega) z k4 rows k16).i ⟨_, rfl, (hX4 k k16 z rfl).symm, fM, hC⟩
        · refine eX0_length M3 (bX0_length_0 M3 ?_)
          rw [k4, ix_nI (by omega), rp.1, szN, if_neg z]
          exact ⟨vp', _, rfl, _, rfl, (hX3 z w2).symm, fM, hC⟩
        · refine eX0_leastPrice M3 (bX0_leastPrice_0 M3 ?_)
          rw [k4, ix_nI (by omega), rp.2.1 z]
          exact ⟨vp', _, rfl, _, rfl, (hX2 z w1).symm, fM, hC⟩
    · have kn : M 77 34 = nI (S 0 0 2) := h.1.1 2 (by decide)
      have kl : M 77 1 = nI (S 0 0 1) := h.1.1 1 (by decide)
      have k6 : M 99 o = nI (S 0 6 o) := h.1.2 6 o (by decide) (by decide) (show o < 12 by omega)
      have vp' : vp_in (nI (S 0 6 o)) 16 := vp_in_nI (by omega) (by decide)
      refine eX10_chain M _ _ (bX10_chain_0 M _ _ ?_)
      rw [kn, kl, ix_nI (n := o) (by omega), k6]
      refine ⟨fun z => absurd z q1, fun _ => ⟨fun _ => ⟨vo, bq_hasn _ _ rfl rfl (by omega) (by omega) (fun q => ?_) (fun q => ⟨_, rfl, (hX1 (W_dead hs hWW q (by omega)).1).symm, FrC.rf M, h⟩)⟩, fun z => absurd z q2⟩⟩
      refine (c_laysSteps (d := 55) (w := 0) hs hW.l0 h.1 (by omega) h.l0).mono (fun M1 h1 => ⟨vo, ?_⟩)
      have h' := h.off h1.2
      have k7 : M1 101 o = nI (S 0 7 o) := h'.1.2 7 o (by decide) (by decide) (show o < 12 by omega)
      have tp : ¬ topS (S 0) = 31 := by
        rcases live_top (S 0 0 0) wo.1 q with w | w
        · exact w
        · omega
      rw [k7]
      refine (c_laysWays (d := 56) hs h'.1 h1.1 (by omega) tp hWW).mono (fun M2 h2 => ⟨vp', ?_⟩)
      have g2 : Fr 77 [105] [] M1 M2 := ⟨fun k hk _ => h2.2 k (by simp at hk; exact hk), fun j _ => by rw [h2.2 77 (by omega)]⟩
      have h'' : RM M2 S := by
        have := h'.v0 (h'.1.fr g2 rfl rfl) g2 rfl rfl
        rw [setS_self] at this
        exact this
      have fC : FrC M M2 := (low_98 h1.2).tr (g2.low (by decide))
      have A2 : ASK M2 (S 0) (S 2) := fun a b w1 w2 => by rw [h2.2 98 (by omega)]; exact h1.1 a b w1 w2
      rw [ix_nI (n := S 0 6 o) (by omega), h2.1 _ wo.1]
      generalize hw : W (S 0 6 o) = w at sm hX1 hX2 hX3 hX4
      rw [show (32 : Int32) = nI 32 from rfl, pk_rem (by omega) (by omega) (by omega), pk_div (by omega) (by omega) (by omega), nI_1]
      refine bq_lt w 1000000000 rfl rfl (by omega) (by omega) (fun z => ⟨vp', ⟨fun w1 => ⟨fun w2 => ?_, fun w2 => ⟨_, rfl, (hX3 (by omega) w2).symm, fC, h''⟩⟩, fun w1 => ⟨vp', _, rfl, (hX2 (by omega) w1).symm, fC, h''⟩⟩⟩) (fun z => ⟨_, rfl, (hX1 (by omega)).symm, fC, h''⟩)
      rcases in_m1 q2 with e | ⟨k, k1, rfl⟩
      · exact absurd e w1
      · have k16 : k < 16 := by
          by_cases e : k = 16
          · rw [e] at w2; exact absurd rfl w2
          · omega
        have x4 := hX4 k k16 (by omega) rfl
        refine bq_lt _ _ rfl rfl (by omega) (by omega) (fun y => ?_) (fun y => ⟨_, rfl, by rw [x4, if_neg (by omega)], fC, h''⟩)
        rw [if_pos (by omega)] at x4
        exact c_chain121 (d := 57) hs h''.1 A2 a1 hWW h2.1 wo.1 (by omega) (by omega) ⟨_, rfl, x4.symm, fC, h''⟩
  · refine ⟨-3, S, hW, fun M h => ?_, fun M h => ?_⟩
    · have kn : M 1 9 = nI (S 0 0 2) := h.1.1 2 (by decide)
      have no : ∃ x : Int32, some (-3 : Int32) = some x ∧ x = -3 ∧ FrM M M ∧ RC M S := ⟨_, rfl, rfl, FrM.rf M, h⟩
      refine eX9_chain M _ _ (bX9_chain_0 M _ _ ?_)
      rw [kn]
      exact ⟨fun _ => no, fun a => ⟨fun b => absurd ⟨a, b⟩ c1, fun _ => no⟩⟩
    · have kn : M 77 34 = nI (S 0 0 2) := h.1.1 2 (by decide)
      have no : ∃ x : Int32, some (-3 : Int32) = some x ∧ x = -3 ∧ FrC M M ∧ RM M S := ⟨_, rfl, rfl, FrC.rf M, h⟩
      refine eX10_chain M _ _ (bX10_chain_0 M _ _ ?_)
      rw [kn]
      exact ⟨fun _ => no, fun a => ⟨fun b => absurd ⟨a, b⟩ c1, fun _ => no⟩⟩
