/-! THE CLASS'S WAYS -/
def szN (m : Nat) : Nat := if m = 1000000000 then 0 else m % 32 + 1
def ftTo (s l : VD) (T : Nat) (W : Nat → Nat) (a : Nat) : Nat → Nat
  | 0 => 0
  | b + 1 => if wyN s l T W a b < mnTo s l T W a b then b else ftTo s l T W a b
/-- what the rows say of one -/
def CRow (M : Mem) (p m : Nat) (f : Int32) : Prop := M 71 p = nI (szN m) ∧ (¬ m = 1000000000 → M 70 p = nI (m / 32)) ∧ M 72 p = f
def ftI (m f : Nat) : Int32 := if m = 1000000000 then -1 else nI f
section WC
variable {d v la p : Nat} {s l : VD} {M : Mem} {T : Nat}
theorem ft_at (W : Nat → Nat) (a : Nat) : ∀ n, mnTo s l T W a n = 1000000000 ∨ (ftTo s l T W a n < n ∧ wyN s l T W a (ftTo s l T W a n) = mnTo s l T W a n ∧ ∀ b, b < ftTo s l T W a n → ¬ wyN s l T W a b = mnTo s l T W a n)
  | 0 => Or.inl rfl
  | n + 1 => by
    have ih := ft_at W a n
    have hl := mn_le (s := s) (l := l) (T := T) W a n
    have e1 : mnTo s l T W a (n + 1) = min (mnTo s l T W a n) (wyN s l T W a n) := rfl
    have e2 : ftTo s l T W a (n + 1) = if wyN s l T W a n < mnTo s l T W a n then n else ftTo s l T W a n := rfl
    by_cases q : wyN s l T W a n < mnTo s l T W a n
    · rw [if_pos q] at e2
      rw [e2, e1, Nat.min_eq_right (by omega)]
      refine Or.inr ⟨by omega, rfl, fun b hb => ?_⟩
      have := hl.2 b hb
      omega
    · rw [if_neg q] at e2
      rw [e2, e1, Nat.min_eq_left (by omega)]
      rcases ih with h | ⟨h1, h2, h3⟩
      · exact Or.inl h
      · exact Or.inr ⟨by omega, h2, h3⟩
theorem c_chooseNext (hv : vS v) (ha : aS la) (hs : WFV s) (h : STP M v la s l) (hP : PRC M s l) (hT : T < 2 ^ 31) (hp : p < 16) {W : Nat → Nat} (hW : ∀ a, W a = eqW s l T W a) (hq : ∀ q, EB s l p q = true → M 71 q = nI (szN (W q)) ∧ (¬ W q = 1000000000 → M 70 q = nI (W q / 32))) {m0 f0 : Nat} (hm0 : m0 ≤ 1000000000) (hc : CRow M p m0 (ftI m0 f0)) : AMv (d + 2) iX0_chooseNext [.ref 69, .int (nI p), .int (nI T)] M (fun M' => CRow M' p (min m0 (mnTo s l T W p 16)) (ftI (min m0 (mnTo s l T W p 16)) (if mnTo s l T W p 16 < m0 then ftTo s l T W p 16 else f0)) ∧ (∀ k, k ≠ 70 → k ≠ 71 → k ≠ 72 → M' k = M k) ∧ ∀ q, q ≠ p → M' 70 q = M 70 q ∧ M' 71 q = M 71 q ∧ M' 72 q = M 72 q) := by
  have hn := hs.1
  have vp' : vp_in (nI p) 16 := vp_in_nI hp (by decide)
  have st : ∀ M' : Mem, (∀ k, k ≠ 70 → k ≠ 71 → k ≠ 72 → M' k = M k) → STP M' v la s l ∧ PRC M' s l := fun M' g => ⟨h.cg hv ha (g 62 (by omega) (by omega) (by omega)) (g 64 (by omega) (by omega) (by omega)) (g 65 (by omega) (by omega) (by omega)) (by rw [g 68 (by omega) (by omega) (by omega)]) (by rw [g 68 (by omega) (by omega) (by omega)]) (fun k hk _ => g k (by omega) (by omega) (by omega)), fun a b q => by rw [g 66 (by omega) (by omega) (by omega)]; exact hP a b q⟩
  refine eX0_chooseNext M _ _ (bX0_chooseNext_0 M _ _ ?_)
  refine up_loop (P := fun q => ∀ M', CRow M' p (min m0 (mnTo s l T W p q)) (ftI (min m0 (mnTo s l T W p q)) (if mnTo s l T W p q < m0 then ftTo s l T W p q else f0)) → (∀ k, k ≠ 70 → k ≠ 71 → k ≠ 72 → M' k = M k) → (∀ q, q ≠ p → M' 70 q = M 70 q ∧ M' 71 q = M 71 q ∧ M' 72 q = M 72 q) → AX0_chooseNext (d + 2) (fun r M' => r = none ∧ CRow M' p (min m0 (mnTo s l T W p 16)) (ftI (min m0 (mnTo s l T W p 16)) (if mnTo s l T W p 16 < m0 then ftTo s l T W p 16 else f0)) ∧ (∀ k, k ≠ 70 → k ≠ 71 → k ≠ 72 → M' k = M k) ∧ ∀ q, q ≠ p → M' 70 q = M 70 q ∧ M' 71 q = M 71 q ∧ M' 72 q = M 72 q) 2 [lR 69, lI (nI p), lI (nI T), lI (nI q), none, none, none] [] M') 16 0 (by omega) ?_ ?_ M ?_ (fun _ _ _ _ => rfl) (fun _ _ => ⟨rfl, rfl, rfl⟩)
  · intro M' c g1 g2
    exact bX0_chooseNext_2 M' _ _ _ (bq_le 16 16 rfl rfl (by omega) (by omega) (fun _ => ⟨rfl, c, g1, g2⟩) (fun z => by omega))
  · intro q _ hq16 ih M' c g1 g2
    have vq : vp_in (nI q) 16 := vp_in_nI hq16 (by decide)
    obtain ⟨hS, hR⟩ := st M' g1
    have ml := (mn_le (s := s) (l := l) (T := T) W p q).1
    have e1 : mnTo s l T W p (q + 1) = min (mnTo s l T W p q) (wyN s l T W p q) := rfl
    have e2 : ftTo s l T W p (q + 1) = if wyN s l T W p q < mnTo s l T W p q then q else ftTo s l T W p q := rfl
    have skip : min m0 (mnTo s l T W p q) ≤ wyN s l T W p q → AX0_chooseNext (d + 2) (fun r M' => r = none ∧ CRow M' p (min m0 (mnTo s l T W p 16)) (ftI (min m0 (mnTo s l T W p 16)) (if mnTo s l T W p 16 < m0 then ftTo s l T W p 16 else f0)) ∧ (∀ k, k ≠ 70 → k ≠ 71 → k ≠ 72 → M' k = M k) ∧ ∀ q, q ≠ p → M' 70 q = M 70 q ∧ M' 71 q = M 71 q ∧ M' 72 q = M 72 q) 2 [lR 69, lI (nI p), lI (nI T), lI (nI (q + 1)), none, none, none] [] M' := by
      intro w
      refine ih M' ?_ g1 g2
      have a1 : min m0 (mnTo s l T W p (q + 1)) = min m0 (mnTo s l T W p q) := by rw [e1]; omega
      have a2 : (if mnTo s l T W p (q + 1) < m0 then ftTo s l T W p (q + 1) else f0) = (if mnTo s l T W p q < m0 then ftTo s l T W p q else f0) := by
        by_cases z : mnTo s l T W p q < m0
        · have z1 : mnTo s l T W p (q + 1) < m0 := by rw [e1]; omega
          have z2 : ¬ wyN s l T W p q < mnTo s l T W p q := by omega
          rw [if_pos z, if_pos z1, e2, if_neg z2]
        · have z1 : ¬ mnTo s l T W p (q + 1) < m0 := by rw [e1]; omega
          rw [if_neg z, if_neg z1]
      rw [a1, a2]
      exact c
    have take : wyN s l T W p q < min m0 (mnTo s l T W p q) → AX0_chooseNext (d + 2) (fun r M' => r = none ∧ CRow M' p (min m0 (mnTo s l T W p 16)) (ftI (min m0 (mnTo s l T W p 16)) (if mnTo s l T W p 16 < m0 then ftTo s l T W p 16 else f0)) ∧ (∀ k, k ≠ 70 → k ≠ 71 → k ≠ 72 → M' k = M k) ∧ ∀ q, q ≠ p → M' 70 q = M 70 q ∧ M' 71 q = M 71 q ∧ M' 72 q = M 72 q) 123 [lR 69, lI (nI p), lI (nI T), lI (nI q), lI (nI (wyN s l T W p q / 32)), lI (nI (wyN s l T W p q % 32 + 1)), none] [] M' := by
      intro w
      refine bX0_chooseNext_123 M' _ _ _ _ _ ⟨vp', vp', vp', ?_⟩
      rw [nI_1 q, ix_nI (by omega)]
      have a1 : min m0 (mnTo s l T W p (q + 1)) = wyN s l T W p q := by rw [e1]; omega
      have a2 : (if mnTo s l T W p (q + 1) < m0 then ftTo s l T W p (q + 1) else f0) = q := by
        have z1 : mnTo s l T W p (q + 1) < m0 := by rw [e1]; omega
        have z2 : wyN s l T W p q < mnTo s l T W p q := by omega
        rw [if_pos z1, e2, if_pos z2]
      have nf : ¬ wyN s l T W p q = 1000000000 := by omega
      refine ih _ ?_ (fun k k1 k2 k3 => by rw [wr_row k3, wr_row k2, wr_row k1]; exact g1 k k1 k2 k3) (fun x hx => ?_)
      · rw [a1, a2]
        refine ⟨?_, fun _ => ?_, ?_⟩
        · rw [wr_row (by omega), wr_same, szN, if_neg nf]
        · rw [wr_row (by omega), wr_row (by omega), wr_same]
        · rw [wr_same, ftI, if_neg nf]
      · obtain ⟨w1, w2, w3⟩ := g2 x hx
        refine ⟨?_, ?_, ?_⟩
        · rw [wr_row (by omega), wr_row (by omega), wr_el hx]; exact w1
        · rw [wr_row (by omega), wr_el hx, wr_row (by omega)]; exact w2
        · rw [wr_el hx, wr_row (by omega), wr_row (by omega)]; exact w3
    refine bX0_chooseNext_2 M' _ _ _ ?_
    rw [nI_1 q, ix_nI (n := q) (by omega)]
    refine bq_le 16 _ rfl rfl (by omega) (by omega) (fun z => by omega) (fun _ => ⟨vq, ?_⟩)
    cases hE : EB s l p q with
    | false =>
      have wf : wyN s l T W p q = 1000000000 := by rw [wyN, if_neg (fun w => by rw [hE] at w; exact absurd w.1 (by decide))]
      have sk := skip (by rw [wf]; omega)
      refine ⟨fun _ => sk, fun _ => (c_leads hv ha hS hp hq16).i ?_⟩
      rw [hE]
      exact ⟨fun _ => sk, fun z => absurd rfl z⟩
    | true =>
      have np : q ≠ p := fun e => by have := (EB_t.mp hE).2.2.1; rw [e] at this; omega
      obtain ⟨b1, b2⟩ := hq q hE
      obtain ⟨w70, w71, _⟩ := g2 q np
      rw [w71, b1]
      have sm := W_sml hs hW q
      have ak := ak_le (T := T) hs hE
      by_cases wf : W q = 1000000000
      · have e0 : szN (W q) = 0 := if_pos wf
        rw [e0]
        refine ⟨fun _ => skip ?_, fun z => absurd (Int32.le_refl _) z⟩
        have : wyN s l T W p q = 1000000000 := by rw [wyN, if_neg (fun w => by omega)]
        omega
      · have e0 : szN (W q) = W q % 32 + 1 := if_neg wf
        have wl : W q < 1000000000 := by omega
        have ew : wyN s l T W p q = 32 * akN s l T p q + 1 + W q := by rw [wyN, if_pos ⟨hE, wl⟩]
        have ed : wyN s l T W p q / 32 = W q / 32 + akN s l T p q := by omega
        have em : wyN s l T W p q % 32 = W q % 32 + 1 := by omega
        rw [e0]
        refine bq_le _ 0 rfl rfl (by omega) (by omega) (fun z => by omega) (fun _ => (c_leads hv ha hS hp hq16).i ?_)
        rw [hE]
        refine ⟨fun z => absurd z (by decide), fun _ => ⟨vq, ?_⟩⟩
        have go : ∀ x, x = nI (akN s l T p q) → AX0_chooseNext (d + 2) (fun r M' => r = none ∧ CRow M' p (min m0 (mnTo s l T W p 16)) (ftI (min m0 (mnTo s l T W p 16)) (if mnTo s l T W p 16 < m0 then ftTo s l T W p 16 else f0)) ∧ (∀ k, k ≠ 70 → k ≠ 71 → k ≠ 72 → M' k = M k) ∧ ∀ q, q ≠ p → M' 70 q = M 70 q ∧ M' 71 q = M 71 q ∧ M' 72 q = M 72 q) 56 [lR 69, lI (nI p), lI (nI T), lI (nI q), none, none, none] [.int x, .int (M' 70 q)] M' := by
          rintro x rfl
          refine bX0_chooseNext_56 M' _ _ _ _ _ ⟨vq, vp', ?_⟩
          rw [w70, b2 wf, nI_add, ix_nI (n := p) (by omega), ix_nI (n := q) (by omega), w71, b1, e0, nI_1, ← ed, ← em]
          by_cases z : min m0 (mnTo s l T W p q) = 1000000000
          · have s0 : M' 71 p = 0 := by rw [c.1, z]; rfl
            have t : AX0_chooseNext (d + 2) (fun r M' => r = none ∧ CRow M' p (min m0 (mnTo s l T W p 16)) (ftI (min m0 (mnTo s l T W p 16)) (if mnTo s l T W p 16 < m0 then ftTo s l T W p 16 else f0)) ∧ (∀ k, k ≠ 70 → k ≠ 71 → k ≠ 72 → M' k = M k) ∧ ∀ q, q ≠ p → M' 70 q = M 70 q ∧ M' 71 q = M 71 q ∧ M' 72 q = M 72 q) 123 [lR 69, lI (nI p), lI (nI T), lI (nI q), lI (nI (wyN s l T W p q / 32)), lI (nI (wyN s l T W p q % 32 + 1)), none] [] M' := take (by omega)
            have t107 : ∀ y, AX0_chooseNext (d + 2) (fun r M' => r = none ∧ CRow M' p (min m0 (mnTo s l T W p 16)) (ftI (min m0 (mnTo s l T W p 16)) (if mnTo s l T W p 16 < m0 then ftTo s l T W p 16 else f0)) ∧ (∀ k, k ≠ 70 → k ≠ 71 → k ≠ 72 → M' k = M k) ∧ ∀ q, q ≠ p → M' 70 q = M 70 q ∧ M' 71 q = M 71 q ∧ M' 72 q = M 72 q) 107 [lR 69, lI (nI p), lI (nI T), lI (nI q), lI (nI (wyN s l T W p q / 32)), lI (nI (wyN s l T W p q % 32 + 1)), none] [.int y] M' := fun y => bX0_chooseNext_107 M' _ _ _ _ _ _ ⟨vp', by
              rw [ix_nI (by omega), s0]
              exact ⟨fun _ => t, fun w => absurd rfl w⟩⟩
            have t102 := bX0_chooseNext_102 M' _ _ _ _ _ (t107 1)
            have t106 := bX0_chooseNext_106 M' _ _ _ _ _ (t107 0)
            exact ⟨fun _ => t102, fun _ => ⟨vp', fun _ => t106, fun _ => ⟨vp', fun _ => t106, fun _ => t102⟩⟩⟩
          · generalize hm : min m0 (mnTo s l T W p q) = m at z c skip take
            have ml2 : m ≤ 1000000000 := by omega
            have s1 : M' 71 p = nI (m % 32 + 1) := by rw [c.1, szN, if_neg z]
            have s2 := c.2.1 z
            have nz : ¬ nI (m % 32 + 1) = 0 := fun w => by have := (nI_inj32 (b := 0) (by omega) (by omega)).mp w; omega
            have t102 := fun (w : wyN s l T W p q < m) => bX0_chooseNext_102 M' _ _ _ _ _ (bX0_chooseNext_107 M' _ _ _ _ _ _ ⟨vp', by
              rw [ix_nI (by omega), s1]
              exact ⟨fun q => absurd q nz, fun _ => ⟨fun q => absurd q (by decide), fun _ => take w⟩⟩⟩)
            have t106 := fun (w : m ≤ wyN s l T W p q) => bX0_chooseNext_106 M' _ _ _ (nI (wyN s l T W p q / 32)) (nI (wyN s l T W p q % 32 + 1)) (bX0_chooseNext_107 M' _ _ _ _ _ _ ⟨vp', by
              rw [ix_nI (by omega), s1, nI_1 q]
              exact ⟨fun q => absurd q nz, fun _ => ⟨fun _ => skip w, fun q => absurd rfl q⟩⟩⟩)
            rw [s1, s2]
            exact bq_lt _ _ rfl rfl (by omega) (by omega) (fun w => t102 (by omega)) (fun w => ⟨vp', bq_ne _ _ rfl rfl (by omega) (by omega) (fun w2 => t106 (by omega)) (fun w2 => ⟨vp', bq_le _ _ rfl rfl (by omega) (by omega) (fun w3 => t106 (by omega)) (fun w3 => t102 (by omega))⟩)⟩)
        exact bq_has _ q rfl rfl hT (by omega) (fun q2 => (c_priceOf hv ha hs hR hE).i (go _ (by rw [akN, q2]; rfl))) (fun q2 => go _ (by rw [akN, if_pos q2]; rfl))
  · have a1 : min m0 (mnTo s l T W p 0) = m0 := Nat.min_eq_left hm0
    have a2 : (if mnTo s l T W p 0 < m0 then ftTo s l T W p 0 else f0) = f0 := if_neg (by show ¬ 1000000000 < m0; omega)
    rw [a1, a2]
    exact hc
end WC
