/-! SAFE: the model's search and the question -/
def bsI (r : Nat × Nat × Nat) : Int32 := if r.1 = 0 then -1 else nI r.2.2
def lsI (r : Nat × Nat × Nat) : Int32 := if r.1 = 0 then 1000000000 else nI r.2.1
theorem nI_nm1 {n : Nat} (h : n < 2 ^ 31) : ¬ nI n = -1 := fun z => by
  have := congrArg Int32.toInt z
  rw [nI_toInt h] at this
  have e1 : Int32.toInt (-1) = -1 := by decide
  rw [e1] at this
  omega
theorem live_top {s : VD} {p : Nat} : ∀ k, p < k → (s 0 1).testBit p = true → ¬ topTo s k = 31 ∨ 31 ≤ k
  | 0, h, _ => by omega
  | k + 1, h, hp => by
    by_cases q : 31 ≤ k + 1
    · exact Or.inr q
    · left
      rw [topTo]
      by_cases c : (s 0 1).testBit k = true ∧ (topTo s k = 31 ∨ tallS s (topTo s k) < tallS s k)
      · rw [if_pos c]; omega
      · rw [if_neg c]
        by_cases e : p = k
        · subst e
          exact fun w => c ⟨hp, Or.inl w⟩
        · rcases live_top k (by omega) hp with w | w
          · exact w
          · omega
theorem c_safe67 {d o p e w R : Nat} {s l : VD} {M : Mem} {Q : Option Int32 → Mem → Prop} (hs : WFV s) (h : VM M s) (hA : ASK M s l) (ho : o < s 0 2) (hR : R = s 0 0) (hp : p = s 6 o) (hlive : (s 0 1).testBit p = true) (he : e = 1 ∨ e = 2) (hw : w ≤ 1) {B : Nat → Bool} (hB : ∀ k, B k = true ↔ SFE s l p (s 7 o ||| k) e) (X : Int32) (hX : X = if (sfF (kOK s (s 7 o)) (prA s l (s 7 o)) B (2 ^ R)).1 = 0 then -2 else if w = 0 then nI (sfF (kOK s (s 7 o)) (prA s l (s 7 o)) B (2 ^ R)).2.1 else nI (sfF (kOK s (s 7 o)) (prA s l (s 7 o)) B (2 ^ R)).2.2) (fin : Q (some X) M) : AX10_safe (d + 4) Q 67 [lR 77, lI (nI o), lI (nI e), lI (nI w), lI (nI p), lI (-1), lI 1000000000, lI 0, none] [] M := by
  subst hR
  have hn := hs.1
  have hO := hs.2.2.1
  have hlv := hs.live
  have wo := hs.2.2.2.2.2.2.2 o ho
  have vo : vp_in (nI o) 12 := vp_in_nI (by omega) (by decide)
  have k7 : M 101 o = nI (s 7 o) := h.2 7 o (by decide) (by decide) (show o < 12 by omega)
  have kn : M 77 0 = nI (s 0 0) := h.1 0 (by decide)
  have kl : M 77 1 = nI (s 0 1) := h.1 1 (by decide)
  have pR : 2 ^ s 0 0 ≤ 65536 := Nat.pow_le_pow_right (n := 2) (by omega) hn
  have hT := wo.2.1
  have hpp : p < s 0 0 := hs.lt hlive
  have tp : ¬ topS s = 31 := by
    rcases live_top (s 0 0) hpp hlive with q | q
    · exact q
    · omega
  generalize s 7 o = T at hB hX k7 hT
  have pp : ∀ k, prA s l T k ≤ 31968 ∨ prA s l T k = 1000000000 := fun k => by
    have := prTo_le hs (l := l) (T := T) (set := k) (s 0 0)
    show prTo s l T k (s 0 0) ≤ 31968 ∨ prTo s l T k (s 0 0) = 1000000000
    omega
  generalize hF : sfF (kOK s T) (prA s l T) B = F at hX
  have Fs : ∀ k, F (k + 1) = if kOK s T k = true ∧ ¬ prA s l T k = 1000000000 ∧ ((F k).1 = 0 ∨ prA s l T k < (F k).2.1 ∨ (prA s l T k = (F k).2.1 ∧ cnt k < cnt (F k).2.2)) ∧ B k = true then (1, prA s l T k, k) else F k := fun k => by rw [← hF]; rfl
  have F0 : F 0 = (0, 0, 0) := by rw [← hF]; rfl
  have Fw : ∀ k, (F k).1 ≤ 1 ∧ (F k).2.1 ≤ 31968 ∧ (F k).2.2 ≤ k := fun k => by rw [← hF]; have := sfF_wf (K := kOK s T) (B := B) pp k; exact ⟨this.1, this.2.1, this.2.2.1⟩
  refine up_loop (P := fun k => AX10_safe (d + 4) Q 67 [lR 77, lI (nI o), lI (nI e), lI (nI w), lI (nI p), lI (bsI (F k)), lI (lsI (F k)), lI (nI k), none] [] M) (2 ^ s 0 0) 0 (by omega) ?_ ?_ |> fun k => by
    rw [F0] at k
    exact k
  · refine bX10_safe_67 M _ _ _ _ _ _ _ ?_
    have fw := Fw (2 ^ s 0 0)
    rw [kn, shl1 _ (by omega)]
    refine bq_le _ _ rfl rfl (by omega) (by omega) (fun _ => ?_) (fun z => by omega)
    by_cases z : (F (2 ^ s 0 0)).1 = 0
    · have e0 : bsI (F (2 ^ s 0 0)) = -1 := if_pos z
      rw [e0]
      refine ⟨fun q => absurd rfl q, fun _ => ?_⟩
      rw [hX, if_pos z] at fin
      exact fin
    · have e0 : bsI (F (2 ^ s 0 0)) = nI (F (2 ^ s 0 0)).2.2 := if_neg z
      have e1 : lsI (F (2 ^ s 0 0)) = nI (F (2 ^ s 0 0)).2.1 := if_neg z
      rw [e0, e1]
      rw [hX, if_neg z] at fin
      refine ⟨fun _ => bq_ne w 0 rfl rfl (by omega) (by omega) (fun q => ?_) (fun q => ?_), fun q => absurd q (nI_nm1 (by omega))⟩
      · rw [if_neg q] at fin; exact fin
      · rw [if_pos q] at fin; exact fin
  · intro k _ hk ih
    have Fi := Fs k
    have fw := Fw k
    have hk2 : k < 65536 := by omega
    have ck := cnt_le k
    have cb := cnt_le (F k).2.2
    have p31 := pp k
    have a1 : k &&& T < 2 ^ 16 := Nat.and_lt_two_pow k (by omega)
    have a2 : sd k (s 0 1) < 2 ^ 31 := Nat.lt_of_le_of_lt (sd_le _ _) (by omega)
    have skip : ¬ (kOK s T k = true ∧ ¬ prA s l T k = 1000000000 ∧ ((F k).1 = 0 ∨ prA s l T k < (F k).2.1 ∨ (prA s l T k = (F k).2.1 ∧ cnt k < cnt (F k).2.2)) ∧ B k = true) → AX10_safe (d + 4) Q 67 [lR 77, lI (nI o), lI (nI e), lI (nI w), lI (nI p), lI (bsI (F k)), lI (lsI (F k)), lI (nI (k + 1)), none] [] M := fun q => by
      rw [if_neg q] at Fi
      rw [Fi] at ih
      exact ih
    refine bX10_safe_67 M _ _ _ _ _ _ _ ?_
    rw [kn, kl, shl1 _ (by omega), ix_nI (by omega), k7, fa_and, andn, nI_1 k, bits_nI (by omega)]
    refine bq_le _ _ rfl rfl (by omega) (by omega) (fun z => by omega) (fun _ => ⟨vo, bq_ne _ 0 rfl rfl (by omega) (by omega) (fun q => skip (fun w => q (of_decide_eq_true w.1).1)) (fun q1 => bq_ne _ 0 rfl rfl a2 (by omega) (fun q => skip (fun w => q (of_decide_eq_true w.1).2.1)) (fun q2 => bq_le _ 5 rfl rfl (by omega) (by omega) (fun q3 => ⟨vo, (c_pricesOf hs h hA (by omega) hk2).i ?_⟩) (fun q => skip (fun w => by have := (of_decide_eq_true w.1).2.2; omega))))⟩)
    have hK : kOK s T k = true := decide_eq_true ⟨q1, q2, q3⟩
    have go : ¬ prA s l T k = 1000000000 → ((F k).1 = 0 ∨ prA s l T k < (F k).2.1 ∨ (prA s l T k = (F k).2.1 ∧ cnt k < cnt (F k).2.2)) → AX10_safe (d + 4) Q 172 [lR 77, lI (nI o), lI (nI e), lI (nI w), lI (nI p), lI (bsI (F k)), lI (lsI (F k)), lI (nI k), lI (nI (prA s l T k))] [] M := by
      intro g1 g2
      refine bX10_safe_172 M _ _ _ _ _ _ _ _ ⟨vo, ?_⟩
      rw [ix_nI (by omega), k7, fa_or, nI_1 k]
      obtain ⟨y, hy⟩ := SFE_x s l p (T ||| k) e
      refine (c_isSafe hs h hA (or_lt hT hk) hpp tp he hy).i ?_
      rcases hy with ⟨rfl, g3⟩ | ⟨rfl, g3⟩
      · refine ⟨fun _ => ?_, fun z => absurd z (by decide)⟩
        rw [if_pos ⟨hK, g1, g2, (hB k).mpr g3⟩] at Fi
        rw [Fi] at ih
        exact ih
      · exact ⟨fun z => absurd rfl z, fun _ => skip (fun w => g3 ((hB k).mp w.2.2.2))⟩
    by_cases z : (F k).1 = 0
    · have e0 : bsI (F k) = -1 := if_pos z
      have e1 : lsI (F k) = nI 1000000000 := if_pos z
      have go' := fun g => go g (Or.inl z)
      have skip' := fun g => skip (fun w => w.2.1 g)
      rw [e0, e1] at go' skip'
      rw [e0, e1]
      exact bq_lt _ _ rfl rfl (by omega) (by omega) (fun q => by omega) (fun _ => bq_eq _ 1000000000 rfl rfl (by omega) (by omega) (fun q => skip' q) (fun q => ⟨fun _ => go' q, fun _ => ⟨fun _ => go' q, fun g => absurd rfl g⟩⟩))
    · have e0 : bsI (F k) = nI (F k).2.2 := if_neg z
      have e1 : lsI (F k) = nI (F k).2.1 := if_neg z
      rw [e0, e1] at go skip
      rw [e0, e1, bits_nI (by omega)]
      refine bq_lt _ _ rfl rfl (by omega) (by omega) (fun q => skip (fun w => by omega)) (fun q => bq_eq _ 1000000000 rfl rfl (by omega) (by omega) (fun q2 => skip (fun w => w.2.1 q2)) (fun q2 => bq_ne _ _ rfl rfl (by omega) (by omega) (fun q3 => go q2 (by omega)) (fun q3 => ⟨fun g => absurd g (nI_nm1 (by omega)), fun _ => bq_lt _ _ rfl rfl (by omega) (by omega) (fun q4 => go q2 (by omega)) (fun q4 => skip (fun w => by omega))⟩)))
theorem op_safe {S : SS} (hW : WF S) (x1 x2 x3 : Int32) : Op S iX9_safe iX10_safe [.int x1, .int x2, .int x3] := by
  have hs := hW.1
  have hn := hs.1
  have hO := hs.2.2.1
  have hlv := hs.live
  by_cases c1 : ¬ isPV (nI (S 0 0 2)) x1 = 0 ∧ ¬ inV x2 1 2 = 0 ∧ ¬ inV x3 0 1 = 0
  · obtain ⟨q1, q2, q3⟩ := c1
    obtain ⟨a1, a2⟩ := isP_nI (by omega) q1
    generalize ix x1 = o at a1 a2
    subst a2
    obtain ⟨b0, b1, b2⟩ := in_nI 1 2 (by omega) (by omega) q2
    generalize ix x2 = e at b0 b1 b2
    subst b2
    obtain ⟨d0, d1, d2⟩ := in_nI 0 1 (by omega) (by omega) q3
    generalize ix x3 = w at d0 d1 d2
    subst d2
    have he : e = 1 ∨ e = 2 := by omega
    have wo := hs.2.2.2.2.2.2.2 o a1
    have vo : vp_in (nI o) 12 := vp_in_nI (by omega) (by decide)
    obtain ⟨B, hB⟩ : ∃ B : Nat → Bool, ∀ k, B k = true ↔ SFE (S 0) (S 2) (S 0 6 o) (S 0 7 o ||| k) e := ⟨fun k => @decide (SFE (S 0) (S 2) (S 0 6 o) (S 0 7 o ||| k) e) (Classical.propDecidable _), fun k => @decide_eq_true_iff _ (Classical.propDecidable _)⟩
    have pp : ∀ k, prA (S 0) (S 2) (S 0 7 o) k ≤ 31968 ∨ prA (S 0) (S 2) (S 0 7 o) k = 1000000000 := fun k => by
      have := prTo_le hs (l := S 2) (T := S 0 7 o) (set := k) (S 0 0 0)
      show prTo (S 0) (S 2) (S 0 7 o) k (S 0 0 0) ≤ 31968 ∨ prTo (S 0) (S 2) (S 0 7 o) k (S 0 0 0) = 1000000000
      omega
    have Fw := sfF_wf (K := kOK (S 0) (S 0 7 o)) (B := B) pp (2 ^ S 0 0 0)
    obtain ⟨X, hX⟩ : ∃ X : Int32, X = if (sfF (kOK (S 0) (S 0 7 o)) (prA (S 0) (S 2) (S 0 7 o)) B (2 ^ S 0 0 0)).1 = 0 then -2 else if w = 0 then nI (sfF (kOK (S 0) (S 0 7 o)) (prA (S 0) (S 2) (S 0 7 o)) B (2 ^ S 0 0 0)).2.1 else nI (sfF (kOK (S 0) (S 0 7 o)) (prA (S 0) (S 2) (S 0 7 o)) B (2 ^ S 0 0 0)).2.2 := ⟨_, rfl⟩
    refine ⟨X, S, hW, fun M h => ?_, fun M h => ?_⟩
    · have kn : M 1 9 = nI (S 0 0 2) := h.1.1 2 (by decide)
      refine eX9_safe M _ _ _ (bX9_safe_0 M _ _ _ ?_)
      rw [kn]
      refine ⟨fun z => absurd z q1, fun _ => ⟨fun z => absurd z q2, fun _ => ⟨fun _ => ?_, fun z => absurd z q3⟩⟩⟩
      refine (c_reckonC (d := 55) vS_1 aS_37 hs hW.l0 h.1 h.l0).mono (fun M1 h1 => (c_reckonPrices (d := 55) vS_1 aS_37 hs hW.l0 h1.1).mono (fun M2 h2 => ⟨vo, vo, ?_⟩))
      have k6 : M2 7 o = nI (S 0 6 o) := h2.1.1.2.2.1.2 6 o (by decide) (by decide) (show o < 12 by omega)
      have k7 : M2 8 o = nI (S 0 7 o) := h2.1.1.2.2.1.2 7 o (by decide) (by decide) (show o < 12 by omega)
      rw [ix_nI (by omega), k6, k7]
      refine (c_searchS (d := 55) vS_1 aS_37 hs h2.1 h2.2.1 wo.2.1 wo.1 he hB).mono (fun r M3 hr => ?_)
      obtain ⟨rfl, sm, g3⟩ := hr
      have f2 : SF 37 M M2 := h1.2.tr h2.2.2
      have fM : FrM M M3 := fun k hk => (g3 k (by omega)).trans (f2.high aS_37 k hk)
      have hC : RC M3 S := by
        have h' := h.sf aS_37 f2
        exact h'.cg (fun k hk => g3 k (by unfold PCr at hk; omega)) (h'.2.2.2.2.2.2.cg (g3 11 (by omega)) (g3 22 (by omega)) (g3 33 (by omega)))
      generalize sfF (kOK (S 0) (S 0 7 o)) (prA (S 0) (S 2) (S 0 7 o)) B (2 ^ S 0 0 0) = F at hX sm Fw
      refine bq_ne _ 0 rfl rfl (by omega) (by omega) (fun z => ?_) (fun z => ⟨_, rfl, by rw [hX, if_pos z], fM, hC⟩)
      obtain ⟨m3, m4, _⟩ := sm.2 (by omega)
      rw [m3, m4]
      rw [if_neg z] at hX
      exact bq_ne w 0 rfl rfl (by omega) (by omega) (fun q => ⟨_, rfl, by rw [hX, if_neg q], fM, hC⟩) (fun q => ⟨_, rfl, by rw [hX, if_pos q], fM, hC⟩)
    · have kn : M 77 34 = nI (S 0 0 2) := h.1.1 2 (by decide)
      have kl : M 77 1 = nI (S 0 0 1) := h.1.1 1 (by decide)
      have k6 : M 99 o = nI (S 0 6 o) := h.1.2 6 o (by decide) (by decide) (show o < 12 by omega)
      refine eX10_safe M _ _ _ (bX10_safe_0 M _ _ _ ?_)
      rw [kn, kl, ix_nI (by omega), k6]
      refine ⟨fun z => absurd z q1, fun _ => ⟨fun z => absurd z q2, fun _ => ⟨fun _ => ⟨vo, bq_hasn _ _ rfl rfl (by omega) (by omega) (fun q => ?_) (fun q => ⟨_, rfl, ?_, FrC.rf M, h⟩)⟩, fun z => absurd z q3⟩⟩⟩
      · refine (c_laysSteps (d := 55) (w := 0) hs hW.l0 h.1 (by omega) h.l0).mono (fun M1 h1 => ?_)
        have h' := h.off h1.2
        exact c_safe67 (d := 56) hs h'.1 h1.1 a1 rfl rfl q he d1 hB X hX ⟨_, rfl, rfl, low_98 h1.2, h'⟩
      · have z : (sfF (kOK (S 0) (S 0 7 o)) (prA (S 0) (S 2) (S 0 7 o)) B (2 ^ S 0 0 0)).1 = 0 := by
          refine Classical.byContradiction (fun z => ?_)
          have := ((hB _).mp (Fw.2.2.2 (by omega)).1).1.1
          rw [q] at this
          cases this
        rw [hX, if_pos z]
  · refine ⟨-1, S, hW, fun M h => ?_, fun M h => ?_⟩
    · have kn : M 1 9 = nI (S 0 0 2) := h.1.1 2 (by decide)
      have no : ∃ x : Int32, some (-1 : Int32) = some x ∧ x = -1 ∧ FrM M M ∧ RC M S := ⟨_, rfl, rfl, FrM.rf M, h⟩
      refine eX9_safe M _ _ _ (bX9_safe_0 M _ _ _ ?_)
      rw [kn]
      exact ⟨fun _ => no, fun a => ⟨fun _ => no, fun b => ⟨fun c => absurd ⟨a, b, c⟩ c1, fun _ => no⟩⟩⟩
    · have kn : M 77 34 = nI (S 0 0 2) := h.1.1 2 (by decide)
      have no : ∃ x : Int32, some (-1 : Int32) = some x ∧ x = -1 ∧ FrC M M ∧ RM M S := ⟨_, rfl, rfl, FrC.rf M, h⟩
      refine eX10_safe M _ _ _ (bX10_safe_0 M _ _ _ ?_)
      rw [kn]
      exact ⟨fun _ => no, fun a => ⟨fun _ => no, fun b => ⟨fun c => absurd ⟨a, b, c⟩ c1, fun _ => no⟩⟩⟩
