/-! WHOM -/
theorem sd_z {a b : Nat} : sd a b = 0 ↔ Sb a b := by
  constructor
  · intro h i hi
    have := sd_bit a b i
    rw [h, hi] at this
    simp at this
    exact this
  · intro h
    refine Nat.eq_of_testBit_eq (fun i => ?_)
    rw [sd_bit]
    cases e : a.testBit i with
    | false => simp
    | true => rw [h i e]; simp
def whF (H : Nat → Nat) (P n : Nat) : Nat → Nat × Nat
  | 0 => (0, 0)
  | k + 1 => if sd k P = 0 ∧ cnt k = n ∧ (whF H P n k).1 < H k + 1 then (H k + 1, k) else whF H P n k
theorem whF_gap {H : Nat → Nat} {P n a : Nat} : ∀ m, (∀ c, a ≤ c → c < a + m → ¬ (sd c P = 0 ∧ cnt c = n)) → whF H P n (a + m) = whF H P n a
  | 0, _ => rfl
  | m + 1, h => by
    show whF H P n ((a + m) + 1) = _
    rw [whF, if_neg (fun q => h (a + m) (by omega) (by omega) ⟨q.1, q.2.1⟩)]
    exact whF_gap m (fun c q1 q2 => h c q1 (by omega))
theorem whF_le {H : Nat → Nat} {P n : Nat} (hH : ∀ k, H k ≤ 16) : ∀ k, (whF H P n k).1 ≤ 17 ∧ (whF H P n k).2 ≤ k
  | 0 => ⟨by show (0 : Nat) ≤ 17; omega, Nat.le_refl _⟩
  | k + 1 => by
    have h1 := whF_le (P := P) (n := n) hH k
    have h2 := hH k
    rw [whF]
    split
    · exact ⟨by show H k + 1 ≤ 17; omega, by show k ≤ k + 1; omega⟩
    · exact ⟨h1.1, by omega⟩
def mvI (m : Nat) : Int32 := if m = 0 then -1 else nI (m - 1)
theorem mv_lt {m h : Nat} (hm : m < 2 ^ 31) (hh : h < 2 ^ 31) : mvI m < nI h ↔ m < h + 1 := by
  rw [mvI]
  by_cases z : m = 0
  · rw [if_pos z]
    refine ⟨fun _ => by omega, fun _ => Int32.lt_of_lt_of_le (by decide : (-1 : Int32) < 0) (nI_pos' hh)⟩
  · rw [if_neg z, nI_ltI (by omega) hh]; omega
theorem mv_le {m h : Nat} (hm : m < 2 ^ 31) (hh : h < 2 ^ 31) : nI h ≤ mvI m ↔ h + 1 ≤ m := by
  rw [← Int32.not_lt, mv_lt hm hh]; omega
section WM
variable {d : Nat} {s l : VD} {M : Mem}
theorem c_heldByM (hs : WFV s) (h : VM M s) (hA : ASK M s l) {hp n : Nat} (hh : hp < 2 ^ 31) (hn : Is n (HH s l hp)) (hn2 : n < 4096) : AMp (d + 3) iX10_heldBy [.ref 77, .int (nI hp)] M (nI (cnt n)) := by
  have hO := hs.2.2.1
  have kO : M 77 34 = nI (s 0 2) := h.1 2 (by decide)
  have ce : cnt n = fb_ct (fun i => n.testBit i) (s 0 2) := by
    have s1 := fb_ct_split (fun i => n.testBit i) (s 0 2) (16 - s 0 2)
    have e : fb_ct (fun k => n.testBit (s 0 2 + k)) (16 - s 0 2) = 0 := fb_ct_zero.mpr (fun k _ => by
      cases q : n.testBit (s 0 2 + k) with
      | false => rfl
      | true => have := ((hn _).mp q).1; omega)
    rw [e, Nat.add_sub_cancel' (by omega)] at s1
    exact s1
  refine eX10_heldBy M _ (bX10_heldBy_0 M _ ?_)
  refine up_loop (P := fun o => AX10_heldBy (d + 3) (fun r M' => some (nI (cnt n)) = r ∧ M = M') 4 [lR 77, lI (nI hp), lI (nI (fb_ct (fun i => n.testBit i) o)), lI (nI o)] [] M) (s 0 2) 0 (by omega) ?_ ?_
  · refine bX10_heldBy_4 M _ _ _ ?_
    rw [kO]
    exact bq_le _ _ rfl rfl (by omega) (by omega) (fun _ => ⟨by rw [ce], rfl⟩) (fun z => by omega)
  · intro o _ ho ih
    have vo : vp_in (nI o) 12 := vp_in_nI (by omega) (by decide)
    have k6 : M 99 o = nI (s 6 o) := h.2 6 o (by decide) (by decide) (show o < 12 by omega)
    have k7 : M 101 o = nI (s 7 o) := h.2 7 o (by decide) (by decide) (show o < 12 by omega)
    have w := hs.2.2.2.2.2.2.2 o ho
    obtain ⟨J, hJ, hI⟩ := RS_set2 (l := l) hs (hs.sworn ho) hp
    refine bX10_heldBy_4 M _ _ _ ?_
    rw [kO, nI_1 o, ix_nI (n := o) (by omega), k6, k7]
    refine bq_le _ _ rfl rfl (by omega) (by omega) (fun z => by omega) (fun _ => ⟨vo, vo, (c_joined hs h hA hh (hs.sworn ho) hI).i ?_⟩)
    obtain ⟨x, hx⟩ := HS_x s l (s 6 o) J
    refine (c_holdsBy hs h hA (by omega) w.1 hx).i ?_
    rw [fb_ct_succ] at ih
    rcases hx with ⟨rfl, q⟩ | ⟨rfl, q⟩
    · refine ⟨fun z => absurd z (by decide), fun _ => ?_⟩
      have e : n.testBit o = true := (hn o).mpr ⟨ho, J, hI, q⟩
      rw [e] at ih
      rw [nI_1]
      exact ih
    · refine ⟨fun _ => ?_, fun z => absurd rfl z⟩
      have e : n.testBit o = false := by
        cases e : n.testBit o with
        | false => rfl
        | true =>
          obtain ⟨_, J2, hJ2, q2⟩ := (hn o).mp e
          rw [Is.un hJ2 hI] at q2
          exact absurd q2 q
      rw [e] at ih
      rw [Int32.add_zero]
      exact ih
end WM
theorem op_whom {S : SS} (hW : WF S) (x1 x2 x3 : Int32) : Op S iX9_whom iX10_whom [.int x1, .int x2, .int x3] := by
  have hs := hW.1
  have hn := hs.1
  have hlv := hs.live
  obtain ⟨P, hP32, rfl⟩ := wb_of32 x1
  have sl : sd P (S 0 0 1) < 2 ^ 32 := sd_lt hP32
  by_cases hz : sd P (S 0 0 1) = 0
  · have hSb := sd_z.mp hz
    have hP : P < 65536 := lt_of_bits (n := 16) (fun i hi => bit_lt (n := 16) hlv (hSb i hi))
    have c16 := cnt_le P
    by_cases G : cnt P ≤ 8 ∧ ¬ inV x2 1 4 = 0 ∧ ¬ nI (cnt P) < x2 ∧ ¬ inV x3 0 1 = 0
    · obtain ⟨G1, G2, G3, G4⟩ := G
      obtain ⟨a0, a1, a2⟩ := in_nI 1 4 (by omega) (by omega) G2
      generalize ix x2 = n at a0 a1 a2
      subst a2
      obtain ⟨b0, b1, b2⟩ := in_nI 0 1 (by omega) (by omega) G4
      generalize ix x3 = w at b0 b1 b2
      subst b2
      have nle : n ≤ cnt P := Nat.le_of_not_lt (fun q => G3 (nI_lt q (by omega)))
      have P1 : 1 ≤ P := by
        by_cases z : P = 0
        · rw [z] at nle
          have : cnt 0 = 0 := by decide
          omega
        · omega
      obtain ⟨H, hH⟩ : ∃ H : Nat → Nat, ∀ set, ∃ k, k < 4096 ∧ Is k (HH (S 0) (S 2) set) ∧ H set = cnt k := ⟨fun set => cnt (Classical.choose (HH_set (S 0) (S 2) hs set)), fun set => ⟨_, (Classical.choose_spec (HH_set (S 0) (S 2) hs set)).1, (Classical.choose_spec (HH_set (S 0) (S 2) hs set)).2, rfl⟩⟩
      have H16 : ∀ k, H k ≤ 16 := fun k => by obtain ⟨m, _, _, e⟩ := hH k; rw [e]; exact cnt_le m
      have W1 : whF H P n 1 = (0, 0) := by
        rw [whF, if_neg (fun q => by
          have : cnt 0 = 0 := by decide
          have := q.2.1
          omega)]
        rfl
      have fin : ∀ r : Nat × Nat, (¬ nI w = 0 → w = 1) ∧ (nI w = 0 → w = 0) := fun _ => ⟨fun q => by
        by_cases z : w = 0
        · rw [z] at q; exact absurd rfl q
        · omega, fun q => (nI_inj32 (b := 0) (by omega) (by omega)).mp q⟩
      obtain ⟨fin1, fin0⟩ := fin (0, 0)
      obtain ⟨X, hX⟩ : ∃ X : Int32, X = (if w = 0 then mvI (whF H P n (P + 1)).1 else nI (whF H P n (P + 1)).2) := ⟨_, rfl⟩
      refine ⟨X, S, hW, fun M h => ?_, fun M h => ?_⟩
      · have kl : M 1 8 = nI (S 0 0 1) := h.1.1 1 (by decide)
        refine eX9_whom M _ _ _ (bX9_whom_0 M _ _ _ ?_)
        rw [kl, andn, hz, bc_nI hP]
        refine ⟨fun z => absurd rfl z, fun _ => bq_lt 8 _ rfl rfl (by omega) (by omega) (fun z => by omega) (fun _ => ⟨fun z => absurd z G2, fun _ => bq_lt _ _ rfl rfl (by omega) (by omega) (fun z => by omega) (fun _ => ?_)⟩)⟩
        refine bX9_whom_47 M _ _ _ _ _ ⟨fun z => absurd z (by decide), fun _ => ⟨fun _ => (c_reckonC (d := 55) vS_1 aS_37 hs hW.l0 h.1 h.l0).mono (fun M1 h1 => ?_), fun z => absurd z G4⟩⟩
        have h' := h.sf aS_37 h1.2
        have p2 : 2 ^ cnt P ≤ 2 ^ 8 := Nat.pow_le_pow_right (by omega) G1
        have p1 : 1 ≤ 2 ^ cnt P := Nat.one_le_two_pow
        refine up_loop (P := fun i => 1 ≤ i → AX9_whom 60 (fun r M' => ∃ y, r = some y ∧ y = X ∧ FrM M M' ∧ RC M' S) 94 [lR 0, lI (nI P), lI (nI n), lI (nI w), lI (nI (cnt P)), none, lI (mvI (whF H P n (pd 16 P (i - 1) + 1)).1), lI (nI (whF H P n (pd 16 P (i - 1) + 1)).2), lI (nI (pd 16 P (i - 1))), lI (nI i), none] [] M1) (2 ^ cnt P) 1 p1 ?_ ?_ (Nat.le_refl _) |> fun k => by
          rw [show 1 - 1 = 0 from rfl, pd_0, W1] at k
          exact k
        · intro _
          refine bX9_whom_94 M1 _ _ _ _ _ _ _ _ ?_
          rw [shl1 _ (by omega)]
          have eL : pd 16 P (2 ^ cnt P - 1) = P := by have := pd_last 16 P hP; rw [pc_cnt] at this; exact this
          rw [eL]
          refine bq_le _ _ rfl rfl (by omega) (by omega) (fun _ => ⟨fun q => ⟨_, rfl, ?_, h1.2.high aS_37, h'⟩, fun q => ⟨_, rfl, ?_, h1.2.high aS_37, h'⟩⟩) (fun z => by omega)
          · rw [hX, if_neg (by have := fin1 q; omega)]
          · rw [hX, if_pos (fin0 q)]
        · intro i _ hi ih i1
          have ih := ih (by omega)
          rw [Nat.add_sub_cancel] at ih
          refine bX9_whom_94 M1 _ _ _ _ _ _ _ _ ?_
          have e1 : nxV (nI (pd 16 P (i - 1))) (nI P) = nI (pd 16 P i) := by
            have := nx_pd (P := P) (i := i - 1) hP (by omega)
            rw [Nat.sub_add_cancel i1] at this
            exact this
          have pl : pd 16 P i < 65536 := pd_lt 16 P i
          have mono := pd_mono 16 P (i - 1) i (by omega) (by rw [pc_cnt]; exact hi)
          have gap : whF H P n (pd 16 P i) = whF H P n (pd 16 P (i - 1) + 1) := by
            have := whF_gap (H := H) (P := P) (n := n) (a := pd 16 P (i - 1) + 1) (pd 16 P i - (pd 16 P (i - 1) + 1)) (fun c q1 q2 q3 => by
              refine pd_gap 16 P (i - 1) c hP (by rw [pc_cnt]; omega) (sd_z.mp q3.1) (by omega) ?_
              rw [Nat.sub_add_cancel i1]
              omega)
            rw [Nat.add_sub_cancel' (by omega)] at this
            exact this
          have sb : sd (pd 16 P i) P = 0 := sd_z.mpr (pd_sub 16 P i)
          have hle := whF_le (P := P) (n := n) H16 (pd 16 P (i - 1) + 1)
          have stp : whF H P n (pd 16 P i + 1) = if cnt (pd 16 P i) = n ∧ (whF H P n (pd 16 P (i - 1) + 1)).1 < H (pd 16 P i) + 1 then (H (pd 16 P i) + 1, pd 16 P i) else whF H P n (pd 16 P (i - 1) + 1) := by
            rw [whF, gap]
            by_cases q : cnt (pd 16 P i) = n ∧ (whF H P n (pd 16 P (i - 1) + 1)).1 < H (pd 16 P i) + 1
            · rw [if_pos q, if_pos ⟨sb, q⟩]
            · rw [if_neg q, if_neg (fun w => q w.2)]
          have cp := cnt_le (pd 16 P i)
          rw [stp] at ih
          rw [shl1 _ (by omega), nI_1 i, e1, bc_nI pl]
          refine bq_le _ _ rfl rfl (by omega) (by omega) (fun z => by omega) (fun _ => bq_ne _ n rfl rfl (by omega) (by omega) (fun q => ?_) (fun q => ?_))
          · rw [if_neg (fun w => q w.1)] at ih; exact ih
          · obtain ⟨k, k1, k2, k3⟩ := hH (pd 16 P i)
            refine (c_heldOaths (d := 56) vS_1 aS_37 hs h1.1 (by omega) k2).i ?_
            rw [bc_nI (by omega), ← k3]
            have hk := H16 (pd 16 P i)
            refine ⟨fun q2 => ?_, fun q2 => ?_⟩
            · have := (mv_le (by omega) (by omega)).mp q2
              rw [if_neg (fun w => by omega)] at ih
              exact ih
            · have : ¬ H (pd 16 P i) + 1 ≤ (whF H P n (pd 16 P (i - 1) + 1)).1 := fun w => q2 ((mv_le (by omega) (by omega)).mpr w)
              rw [if_pos ⟨q, by omega⟩] at ih
              exact ih
      · have kl : M 77 1 = nI (S 0 0 1) := h.1.1 1 (by decide)
        refine eX10_whom M _ _ _ (bX10_whom_0 M _ _ _ ?_)
        rw [kl, andn, hz, bits_nI (by omega)]
        refine bq_lt P 1 rfl rfl (by omega) (by omega) (fun z => by omega) (fun _ => ⟨fun z => absurd rfl z, fun _ => bq_lt 8 _ rfl rfl (by omega) (by omega) (fun z => by omega) (fun _ => ⟨fun z => absurd z G2, fun _ => bq_lt _ _ rfl rfl (by omega) (by omega) (fun z => by omega) (fun _ => ⟨fun _ => (c_laysSteps (d := 55) (w := 0) hs hW.l0 h.1 (by omega) h.l0).mono (fun M1 h1 => ?_), fun z => absurd z G4⟩)⟩)⟩)
        have h' := h.off h1.2
        refine up_loop (P := fun k => AX10_whom 60 (fun r M' => ∃ y, r = some y ∧ y = X ∧ FrC M M' ∧ RM M' S) 67 [lR 77, lI (nI P), lI (nI n), lI (nI w), lI (nI (whF H P n k).2), lI (mvI (whF H P n k).1), lI (nI k), none] [] M1) (P + 1) 1 (by omega) ?_ ?_ |> fun k => by
          rw [W1] at k
          exact k
        · refine bX10_whom_67 M1 _ _ _ _ _ _ (bq_lt _ _ rfl rfl (by omega) (by omega) (fun _ => ⟨fun q => ⟨_, rfl, ?_, low_98 h1.2, h'⟩, fun q => ⟨_, rfl, ?_, low_98 h1.2, h'⟩⟩) (fun z => by omega))
          · rw [hX, if_neg (by have := fin1 q; omega)]
          · rw [hX, if_pos (fin0 q)]
        · intro k k1 hk ih
          have stp : whF H P n (k + 1) = if sd k P = 0 ∧ cnt k = n ∧ (whF H P n k).1 < H k + 1 then (H k + 1, k) else whF H P n k := rfl
          rw [stp] at ih
          have sk : sd k P < 2 ^ 31 := Nat.lt_of_le_of_lt (sd_le k P) (by omega)
          have ck := cnt_le k
          have hle := whF_le (P := P) (n := n) H16 k
          have hk16 := H16 k
          refine bX10_whom_67 M1 _ _ _ _ _ _ ?_
          rw [andn, bits_nI (by omega), nI_1 k]
          refine bq_lt _ _ rfl rfl (by omega) (by omega) (fun z => by omega) (fun _ => bq_ne _ 0 rfl rfl sk (by omega) (fun q => ?_) (fun q => bq_eq _ n rfl rfl (by omega) (by omega) (fun q2 => ?_) (fun q2 => ?_)))
          · rw [if_neg (fun w => q w.1)] at ih; exact ih
          · obtain ⟨m, m1, m2, m3⟩ := hH k
            refine (c_heldByM (d := 56) hs h'.1 h1.1 (by omega) m2 m1).i ?_
            rw [← m3]
            refine ⟨fun q3 => ?_, fun q3 => ?_⟩
            · have := (mv_lt (by omega) (by omega)).mp q3
              rw [if_pos ⟨q, q2, by omega⟩] at ih
              exact ih
            · have : ¬ (whF H P n k).1 < H k + 1 := fun w => q3 ((mv_lt (by omega) (by omega)).mpr w)
              rw [if_neg (fun w => this w.2.2)] at ih
              exact ih
          · rw [if_neg (fun w => q2 w.2.1)] at ih; exact ih
    · refine ⟨-1, S, hW, fun M h => ?_, fun M h => ?_⟩
      · have kl : M 1 8 = nI (S 0 0 1) := h.1.1 1 (by decide)
        have no : ∃ x : Int32, some (-1 : Int32) = some x ∧ x = -1 ∧ FrM M M ∧ RC M S := ⟨_, rfl, rfl, FrM.rf M, h⟩
        have bad : AX9_whom 60 (fun r M' => ∃ y, r = some y ∧ y = -1 ∧ FrM M M' ∧ RC M' S) 46 [lR 0, lI (nI P), lI x2, lI x3, lI (nI (cnt P)), none, none, none, none, none, none] [] M := bX9_whom_46 M _ _ _ _ (bX9_whom_47 M _ _ _ _ _ ⟨fun _ => no, fun z => absurd rfl z⟩)
        refine eX9_whom M _ _ _ (bX9_whom_0 M _ _ _ ?_)
        rw [kl, andn, hz, bc_nI hP]
        exact ⟨fun z => absurd rfl z, fun _ => bq_lt 8 _ rfl rfl (by omega) (by omega) (fun z => bad) (fun g1 => ⟨fun z => bad, fun g2 => ⟨fun z => bad, fun g3 => bX9_whom_47 M _ _ _ _ _ ⟨fun z => absurd z (by decide), fun _ => ⟨fun g4 => absurd ⟨g1, g2, g3, g4⟩ G, fun _ => no⟩⟩⟩⟩)⟩
      · have kl : M 77 1 = nI (S 0 0 1) := h.1.1 1 (by decide)
        have no : ∃ x : Int32, some (-1 : Int32) = some x ∧ x = -1 ∧ FrC M M ∧ RM M S := ⟨_, rfl, rfl, FrC.rf M, h⟩
        refine eX10_whom M _ _ _ (bX10_whom_0 M _ _ _ ?_)
        rw [kl, andn, hz, bits_nI (by omega)]
        exact ⟨fun _ => no, fun _ => ⟨fun _ => no, fun _ => bq_lt 8 _ rfl rfl (by omega) (by omega) (fun z => no) (fun g1 => ⟨fun _ => no, fun g2 => ⟨fun _ => no, fun g3 => ⟨fun g4 => absurd ⟨g1, g2, g3, g4⟩ G, fun _ => no⟩⟩⟩)⟩⟩
  · have ne : ¬ nI (sd P (S 0 0 1)) = 0 := fun q => hz ((nI_inj32 (b := 0) sl (by omega)).mp q)
    refine ⟨-1, S, hW, fun M h => ?_, fun M h => ?_⟩
    · have kl : M 1 8 = nI (S 0 0 1) := h.1.1 1 (by decide)
      refine eX9_whom M _ _ _ (bX9_whom_0 M _ _ _ ?_)
      rw [kl, andn]
      exact ⟨fun _ => bX9_whom_46 M _ _ _ _ (bX9_whom_47 M _ _ _ _ _ ⟨fun _ => ⟨_, rfl, rfl, FrM.rf M, h⟩, fun z => absurd rfl z⟩), fun z => absurd z ne⟩
    · have kl : M 77 1 = nI (S 0 0 1) := h.1.1 1 (by decide)
      refine eX10_whom M _ _ _ (bX10_whom_0 M _ _ _ ?_)
      rw [kl, andn]
      exact ⟨fun _ => ⟨_, rfl, rfl, FrC.rf M, h⟩, fun _ => ⟨fun _ => ⟨_, rfl, rfl, FrC.rf M, h⟩, fun z => absurd z ne⟩⟩
