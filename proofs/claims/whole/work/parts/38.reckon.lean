/-! THE CLASS RECKONS -/
def STP (M : Mem) (v la : Nat) (s l : VD) : Prop := SX M v la s l ∧ M 62 8 = tvI (topS s) ∧ (∃ c u, M 62 7 = nI c ∧ (∀ i, i < c → M 64 i = nI (u i)) ∧ ORD s (s 0 0) c u) ∧ ∀ b, b < 16 → ∃ n, n < 65536 ∧ M 65 b = nI n ∧ Is n (fun a => EB s l a b = true)
/-- what a reckoning leaves alone -/
def SF (la : Nat) (M M' : Mem) : Prop := ∀ k, (k < 62 ∨ 68 < k) → k ≠ la + 7 → M' k = M k
theorem SF.tr {la : Nat} {M M1 M2 : Mem} (h : SF la M M1) (h2 : SF la M1 M2) : SF la M M2 := fun k q1 q2 => (h2 k q1 q2).trans (h k q1 q2)
theorem SF.rf {la : Nat} {M : Mem} : SF la M M := fun _ _ _ => rfl
section CK
variable {d v la p a b : Nat} {s l : VD} {M : Mem}
theorem STP.cg {M M' : Mem} (hv : vS v) (ha : aS la) (h : STP M v la s l) (h62 : M' 62 = M 62) (h64 : M' 64 = M 64) (h65 : M' 65 = M 65) (h10 : M' 68 10 = M 68 10) (h11 : M' 68 11 = M 68 11) (hf : ∀ k, k < 62 → k ≠ la + 7 → M' k = M k) : STP M' v la s l := by
  refine ⟨h.1.cg hv ha (by rw [h62]) (by rw [h62]) h10 h11 hf, by rw [h62]; exact h.2.1, ?_, ?_⟩
  · rw [h62, h64]; exact h.2.2.1
  · rw [h65]; exact h.2.2.2
theorem c_reckon_tail (hv : vS v) (ha : aS la) (hs : WFV s) (hl : WFL l) {M0 : Mem} (h : SX M v la s l) (h8 : M 62 8 = tvI (topS s)) {c : Nat} {u : Nat → Nat} (e1 : M 62 7 = nI c) (e2 : ∀ i, i < c → M 64 i = nI (u i)) (e3 : ORD s (s 0 0) c u) (e4 : ∀ p, p < s 0 0 → M 63 p = nI (tallS s p)) (h0 : SF la M0 M) : AX6_reckon (d + 4) (fun r M' => r = none ∧ STP M' v la s l ∧ SF la M0 M') 42 [lR 62, none, none, lI (nI 0), none] [] M := by
  have hn := hs.1
  have n1 := hv.n
  have n2 := ha.n
  have hc := e3.1
  have st : ∀ M' : Mem, (∀ k, k ≠ 65 → k ≠ 68 → k ≠ la + 7 → M' k = M k) → M' 68 10 = M 68 10 → M' 68 11 = M 68 11 → SX M' v la s l := fun M' g g1 g2 => h.cg hv ha (by rw [g 62 (by omega) (by omega) (by omega)]) (by rw [g 62 (by omega) (by omega) (by omega)]) g1 g2 (fun k hk q => g k (by omega) (by omega) q)
  refine up_loop (P := fun q => ∀ M', (∀ b, b < q → M' 65 b = 0) → (∀ k, k ≠ 65 → M' k = M k) → AX6_reckon (d + 4) (fun r M' => r = none ∧ STP M' v la s l ∧ SF la M0 M') 42 [lR 62, none, none, lI (nI q), none] [] M') 16 0 (by omega) ?_ ?_ M (fun b hb => by omega) (fun _ _ => rfl)
  · intro M1 z1 g1
    refine bX6_reckon_42 hv.iv ha.ia M1 _ (bq_le 16 16 rfl rfl (by omega) (by omega) (fun _ => ?_) (fun z => by omega))
    -- the two loops
    have main : ∀ hi, 1 ≤ hi → hi ≤ c ∨ hi = 1 → ∀ M', (∀ b, b < 16 → ∃ n, n < 65536 ∧ M' 65 b = nI n ∧ Is n (fun a => ∃ i j, i < j ∧ j < hi ∧ j < c ∧ u j = b ∧ u i = a ∧ EB s l a b = true)) → (∀ k, k ≠ 65 → k ≠ 68 → k ≠ la + 7 → M' k = M k) → M' 68 10 = M 68 10 → M' 68 11 = M 68 11 → AX6_reckon (d + 4) (fun r M' => r = none ∧ STP M' v la s l ∧ SF la M0 M') 63 [lR 62, none, none, lI (nI hi), none] [] M' := by
      have base : ∀ hi M', c ≤ hi → 1 ≤ hi → hi ≤ 17 → (∀ b, b < 16 → ∃ n, n < 65536 ∧ M' 65 b = nI n ∧ Is n (fun a => ∃ i j, i < j ∧ j < hi ∧ j < c ∧ u j = b ∧ u i = a ∧ EB s l a b = true)) → (∀ k, k ≠ 65 → k ≠ 68 → k ≠ la + 7 → M' k = M k) → M' 68 10 = M 68 10 → M' 68 11 = M 68 11 → AX6_reckon (d + 4) (fun r M' => r = none ∧ STP M' v la s l ∧ SF la M0 M') 63 [lR 62, none, none, lI (nI hi), none] [] M' := by
        intro hi M' c1 c2 c3 b1 g g10 g11
        have k7 : M' 62 7 = nI c := by rw [g 62 (by omega) (by omega) (by omega)]; exact e1
        refine bX6_reckon_63 hv.iv ha.ia M' _ ?_
        rw [k7]
        refine bq_le _ _ rfl rfl (by omega) (by omega) (fun _ => ⟨rfl, ⟨st M' g g10 g11, ?_, ⟨c, u, k7, ?_, e3⟩, fun b hb => ?_⟩, fun k q1 q2 => (g k (by omega) (by omega) q2).trans (h0 k q1 q2)⟩) (fun z => by omega)
        · rw [g 62 (by omega) (by omega) (by omega)]; exact h8
        · rw [g 64 (by omega) (by omega) (by omega)]; exact e2
        · obtain ⟨n, a1, a2, a3⟩ := b1 b hb
          refine ⟨n, a1, a2, a3.cg (fun a => ⟨fun ⟨i, j, _, _, _, _, _, q⟩ => q, fun q => ?_⟩)⟩
          have t := EB_t.mp q
          have l := EB_lt hs q
          obtain ⟨i, hi1, hi2⟩ := e3.2.2.1 a l.1 t.1
          obtain ⟨j, hj1, hj2⟩ := e3.2.2.1 b l.2 t.2.1
          have tt := t.2.2.1
          refine ⟨i, j, ?_, by omega, hj1, hj2, hi2, q⟩
          by_cases z : i < j
          · exact z
          · exfalso
            by_cases z2 : i = j
            · rw [← hi2, ← hj2, z2] at tt; omega
            · have := e3.2.2.2 j i (by omega) hi1
              rw [hi2, hj2] at this
              omega
      intro hi q1 q2
      by_cases qc : c ≤ hi
      · intro M' b1 g g10 g11
        exact base hi M' qc q1 (by omega) b1 g g10 g11
      · refine up_loop (P := fun hi => 1 ≤ hi → ∀ M', (∀ b, b < 16 → ∃ n, n < 65536 ∧ M' 65 b = nI n ∧ Is n (fun a => ∃ i j, i < j ∧ j < hi ∧ j < c ∧ u j = b ∧ u i = a ∧ EB s l a b = true)) → (∀ k, k ≠ 65 → k ≠ 68 → k ≠ la + 7 → M' k = M k) → M' 68 10 = M 68 10 → M' 68 11 = M 68 11 → AX6_reckon (d + 4) (fun r M' => r = none ∧ STP M' v la s l ∧ SF la M0 M') 63 [lR 62, none, none, lI (nI hi), none] [] M') c hi (by omega) ?_ ?_ q1
        · intro w1 M' b1 g g10 g11
          exact base c M' (Nat.le_refl _) w1 (by omega) b1 g g10 g11
        · intro hi _ hlt ih w1 M' b1 g g10 g11
          have k7 : M' 62 7 = nI c := by rw [g 62 (by omega) (by omega) (by omega)]; exact e1
          refine bX6_reckon_63 hv.iv ha.ia M' _ ?_
          rw [k7]
          refine bq_le _ _ rfl rfl (by omega) (by omega) (fun z => by omega) (fun _ => ?_)
          have uh := e3.2.1 hi hlt
          refine up_loop (P := fun lo => ∀ M', (∀ b, b < 16 → ∃ n, n < 65536 ∧ M' 65 b = nI n ∧ Is n (fun a => ∃ i j, i < j ∧ (j < hi ∨ (j = hi ∧ i < lo)) ∧ j < c ∧ u j = b ∧ u i = a ∧ EB s l a b = true)) → (∀ k, k ≠ 65 → k ≠ 68 → k ≠ la + 7 → M' k = M k) → M' 68 10 = M 68 10 → M' 68 11 = M 68 11 → AX6_reckon (d + 4) (fun r M' => r = none ∧ STP M' v la s l ∧ SF la M0 M') 74 [lR 62, none, none, lI (nI hi), lI (nI lo)] [] M') hi 0 (by omega) ?_ ?_ M' (fun b hb => ?_) g g10 g11
          · intro M' b1 g g10 g11
            refine bX6_reckon_74 hv.iv ha.ia M' _ _ ?_
            rw [nI_1 hi]
            refine bq_le _ _ rfl rfl (by omega) (by omega) (fun _ => ih (by omega) M' (fun b hb => ?_) g g10 g11) (fun z => by omega)
            obtain ⟨n, a1, a2, a3⟩ := b1 b hb
            refine ⟨n, a1, a2, a3.cg (fun a => ⟨?_, ?_⟩)⟩
            · rintro ⟨i, j, w1, w2, w3⟩; exact ⟨i, j, w1, by omega, w3⟩
            · rintro ⟨i, j, w1, w2, w3⟩; exact ⟨i, j, w1, by omega, w3⟩
          · intro lo _ hlo ih2 M' b1 g g10 g11
            have ul := e3.2.1 lo (by omega)
            have r64 : M' 64 = M 64 := g 64 (by omega) (by omega) (by omega)
            refine bX6_reckon_74 hv.iv ha.ia M' _ _ ?_
            rw [nI_1 lo, ix_nI (n := lo) (by omega), ix_nI (n := hi) (by omega), r64, e2 lo (by omega), e2 hi hlt]
            refine bq_le _ _ rfl rfl (by omega) (by omega) (fun z => by omega) (fun _ => ⟨vp_in_nI (by omega) (by decide), vp_in_nI (by omega) (by decide), ?_⟩)
            refine (c_isLet hv ha hs hl (st M' g g10 g11) (fun p hp => by rw [g 63 (by omega) (by omega) (by omega)]; exact e4 p hp) ul.2 uh.2).mono (fun r M2 hr => ?_)
            obtain ⟨rfl, w10, w11, w⟩ := hr
            have g2 : ∀ k, k ≠ 65 → k ≠ 68 → k ≠ la + 7 → M2 k = M k := fun k q1 q2 q3 => (w k q2 q3).trans (g k q1 q2 q3)
            have r65 : M2 65 = M' 65 := w 65 (by omega) (by omega)
            cases hE : EB s l (u lo) (u hi) with
            | false =>
              refine ⟨fun _ => ih2 M2 (fun b hb => ?_) g2 (w10.trans g10) (w11.trans g11), fun z => absurd rfl z⟩
              obtain ⟨n, a1, a2, a3⟩ := b1 b hb
              refine ⟨n, a1, by rw [r65]; exact a2, a3.cg (fun a => ⟨?_, ?_⟩)⟩
              · rintro ⟨i, j, w1, w2, w3⟩; exact ⟨i, j, w1, by omega, w3⟩
              · rintro ⟨i, j, w1, w2, w3, w4, w5, w6⟩
                refine ⟨i, j, w1, ?_, w3, w4, w5, w6⟩
                by_cases z : j = hi ∧ i = lo
                · rw [z.1] at w4; rw [z.2] at w5; rw [← w4, ← w5, hE] at w6; cases w6
                · omega
            | true =>
              refine ⟨fun z => absurd z (by decide), fun _ => ⟨vp_in_nI (by omega) (by decide), ?_⟩⟩
              rw [w 64 (by omega) (by omega), r64, e2 lo (by omega), e2 hi hlt, ix_nI (n := u hi) (by omega), r65]
              obtain ⟨n, a1, a2, a3⟩ := b1 (u hi) (by omega)
              rw [a2, or1 (by omega)]
              refine ⟨vp_in_nI (by omega) (by decide), vp_in_nI (by omega) (by decide), vp_in_nI (by omega) (by decide), ih2 _ (fun b hb => ?_) (fun k q1 q2 q3 => (wr_row q1).trans (g2 k q1 q2 q3)) (by rw [wr_row (by omega)]; exact w10.trans g10) (by rw [wr_row (by omega)]; exact w11.trans g11)⟩
              by_cases z : b = u hi
              · subst z
                refine ⟨n ||| 2 ^ u lo, or_lt (k := 16) a1 (p2_lt (by omega)), wr_same _ _ _ _, fun a => ?_⟩
                rw [or1_bit, Bool.or_eq_true, a3 a, decide_eq_true_eq]
                constructor
                · rintro (⟨i, j, w1, w2, w3⟩ | rfl)
                  · exact ⟨i, j, w1, by omega, w3⟩
                  · exact ⟨lo, hi, hlo, by omega, hlt, rfl, rfl, hE⟩
                · rintro ⟨i, j, w1, w2, w3, w4, w5, w6⟩
                  by_cases z : j = hi ∧ i = lo
                  · rw [z.2] at w5; exact Or.inr w5
                  · exact Or.inl ⟨i, j, w1, by omega, w3, w4, w5, w6⟩
              · obtain ⟨n, a1, a2, a3⟩ := b1 b hb
                refine ⟨n, a1, by rw [wr_el z, r65]; exact a2, a3.cg (fun a => ⟨?_, ?_⟩)⟩
                · rintro ⟨i, j, w1, w2, w3⟩; exact ⟨i, j, w1, by omega, w3⟩
                · rintro ⟨i, j, w1, w2, w3, w4, w5⟩
                  refine ⟨i, j, w1, ?_, w3, w4, w5⟩
                  by_cases zz : j = hi
                  · rw [zz] at w4; exact absurd w4.symm z
                  · omega
          · obtain ⟨n, a1, a2, a3⟩ := b1 b hb
            refine ⟨n, a1, a2, a3.cg (fun a => ⟨?_, ?_⟩)⟩
            · rintro ⟨i, j, w1, w2, w3⟩; exact ⟨i, j, w1, by omega, w3⟩
            · rintro ⟨i, j, w1, w2, w3⟩; exact ⟨i, j, w1, by omega, w3⟩
    refine main 1 (by omega) (Or.inr rfl) M1 (fun b hb => ⟨0, by omega, z1 b hb, fun a => ?_⟩) (fun k q1 _ _ => g1 k q1) (by rw [g1 68 (by omega)]) (by rw [g1 68 (by omega)])
    simp only [Nat.zero_testBit]
    constructor
    · intro q; cases q
    · rintro ⟨i, j, w1, w2, _⟩; omega
  · intro q _ hq ih M' z1 g1
    refine bX6_reckon_42 hv.iv ha.ia M' _ ?_
    rw [nI_1 q, ix_nI (by omega)]
    refine bq_le 16 _ rfl rfl (by omega) (by omega) (fun z => by omega) (fun _ => ⟨vp_in_nI hq (by decide), ih _ (fun b hb => ?_) (fun k hk => (wr_row hk).trans (g1 k hk))⟩)
    by_cases z : b = q
    · rw [z]; exact wr_same _ _ _ _
    · rw [wr_el z]; exact z1 b (by omega)
theorem isT_67 : isT 67 := Or.inr (Or.inr (Or.inr rfl))
theorem c_reckonC (hv : vS v) (ha : aS la) (hs : WFV s) (hl : WFL l) (h : VC v M s) (hL : LC la M l) : AMv (d + 4) iX6_reckon [.ref 62, .ref v, .ref la] M (fun M' => STP M' v la s l ∧ SF la M M') := by
  have n1 := hv.n
  have n2 := ha.n
  refine eX6_reckon M (bX6_reckon_0 (sv := v) (sa := la) hv.iv ha.ia hv.iv ha.ia M ?_)
  generalize hM1 : wr (wr M 62 5 (nI v)) 62 6 (nI la) = M1
  have g1 : ∀ k, k ≠ 62 → M1 k = M k := fun k hk => by rw [← hM1, wr_row hk, wr_row hk]
  have k5 : M1 62 5 = nI v := by rw [← hM1, wr_el (by omega)]; exact wr_same _ _ _ _
  have k6 : M1 62 6 = nI la := by rw [← hM1]; exact wr_same _ _ _ _
  have hV1 : VC v M1 s := h.cg (g1 v (by omega)) (fun r q1 q2 => g1 _ (by omega))
  refine ⟨by rw [k5, ix_nI (by omega)], (c_tallestOne hv.iv hs hV1).i ?_⟩
  generalize hM2 : wr M1 62 8 (tvI (topS s)) = M2
  have g2 : ∀ k, k ≠ 62 → M2 k = M k := fun k hk => by rw [← hM2, wr_row hk, g1 k hk]
  have k5' : M2 62 5 = nI v := by rw [← hM2, wr_el (by omega), k5]
  have k6' : M2 62 6 = nI la := by rw [← hM2, wr_el (by omega), k6]
  have k8' : M2 62 8 = tvI (topS s) := by rw [← hM2]; exact wr_same _ _ _ _
  have ky : M2 v 10 = nI (s 0 3) := by rw [g2 v (by omega)]; exact h.1 3 (by decide)
  rw [ky]
  refine ⟨by rw [k5', ix_nI (by omega)], eX4_tellTime _ _ _ (bX4_tellTime_0 isT_67 _ _ _ ⟨rfl, ?_⟩)⟩
  generalize hM3 : wr (wr M2 (67 + 1) 10 (nI (s 0 3))) (67 + 1) 11 0 = M3
  have g3 : ∀ k, k ≠ 68 → M3 k = M2 k := fun k hk => by rw [← hM3, wr_row hk, wr_row hk]
  have g3' : ∀ k, k ≠ 62 → k ≠ 68 → M3 k = M k := fun k q1 q2 => by rw [g3 k q2, g2 k q1]
  have t10 : M3 68 10 = nI (s 0 3) := by rw [← hM3, wr_el (by omega)]; exact wr_same _ _ _ _
  have t11 : M3 68 11 = 0 := by rw [← hM3]; exact wr_same _ _ _ _
  have hV3 : VC v M3 s := h.cg (g3' v (by omega) (by omega)) (fun r q1 q2 => g3' _ (by omega) (by omega))
  have hX3 : SX M3 v la s l := ⟨by rw [g3 62 (by omega)]; exact k5', by rw [g3 62 (by omega)]; exact k6', hV3, hL.cg (fun r q => g3' _ (by omega) (by omega)), t10, t11⟩
  refine (c_orderUpward hv hs hX3.1 hV3).mono (fun M4 h4 => ?_)
  obtain ⟨⟨c, u, e1, e2, e3⟩, e4, e5⟩ := h4
  refine c_reckon_tail hv ha hs hl (hX3.cg hv ha (e5.2 5 (by omega)) (e5.2 6 (by omega)) (by rw [e5.1 68 (by omega) (by omega) (by omega)]) (by rw [e5.1 68 (by omega) (by omega) (by omega)]) (fun k hk _ => e5.1 k (by omega) (by omega) (by omega))) ?_ e1 e2 e3 e4 (fun k q1 q2 => ?_)
  · rw [e5.2 8 (by omega), g3 62 (by omega)]; exact k8'
  · rw [e5.1 k (by omega) (by omega) (by omega), g3' k (by omega) (by omega)]
end CK
