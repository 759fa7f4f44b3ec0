/-! AGAINST -/
theorem c_outcomeFor {d N a b : Nat} {s l : VD} {M : Mem} (hs : WFV s) (h : STP M 1 37 s l) (ha : a < s 0 2) (hb : b < s 0 2) (hN : N ≤ 4) (hN1 : 1 ≤ N) {hv : Nat → Nat → Nat} (hh : ∀ c x, hv c x ≤ 1 ∧ (hv c x = 1 ↔ HS s l (if c = 0 then s 6 a else s 6 b) x)) : AMi (d + 9) iX1_outcomeFor [.ref 74, .ref 1, .int (nI a), .int (nI b), .int (nI N)] M (fun r M' => r = cI (plV s l hv (N - 1) 0 (s 7 a) (s 7 b) 16).1 ∧ M' 74 2 = tuI (plV s l hv (N - 1) 0 (s 7 a) (s 7 b) 16).2 ∧ ∀ k, k ≠ 74 → k ≠ 75 → M' k = M k) := by
  have hO := hs.2.2.1
  have va : vp_in (nI a) 12 := vp_in_nI (by omega) (by decide)
  have vb : vp_in (nI b) 12 := vp_in_nI (by omega) (by decide)
  have hV := h.1.2.2.1
  have a6 : M 7 a = nI (s 6 a) := hV.2 6 a (by decide) (by decide) (show a < 12 by omega)
  have b6 : M 7 b = nI (s 6 b) := hV.2 6 b (by decide) (by decide) (show b < 12 by omega)
  have a7 : M 8 a = nI (s 7 a) := hV.2 7 a (by decide) (by decide) (show a < 12 by omega)
  have b7 : M 8 b = nI (s 7 b) := hV.2 7 b (by decide) (by decide) (show b < 12 by omega)
  have wa := (hs.2.2.2.2.2.2.2 a ha).1
  have wb := (hs.2.2.2.2.2.2.2 b hb).1
  refine eX1_outcomeFor M _ _ _ (bX1_outcomeFor_0 isV_1 M _ _ _ ⟨va, vb, va, vb, ?_⟩)
  rw [ix_nI (n := a) (by omega), ix_nI (n := b) (by omega)]
  have e1 : M (1 + 6) a = nI (s 6 a) := a6
  rw [e1]
  have e2 : wr M 75 0 (nI (s 6 a)) (1 + 6) b = nI (s 6 b) := by rw [wr_row (by omega)]; exact b6
  rw [e2]
  generalize hM1 : wr (wr M 75 0 (nI (s 6 a))) 75 1 (nI (s 6 b)) = M1
  have g1 : ∀ k, k ≠ 75 → M1 k = M k := fun k hk => by rw [← hM1, wr_row hk, wr_row hk]
  have e3 : M1 (1 + 7) a = nI (s 7 a) := by rw [g1 _ (by omega)]; exact a7
  have e4 : M1 (1 + 7) b = nI (s 7 b) := by rw [g1 _ (by omega)]; exact b7
  rw [e3, e4]
  have hS : STP M1 1 37 s l := h.cg vS_1 aS_37 (g1 62 (by omega)) (g1 64 (by omega)) (g1 65 (by omega)) (by rw [g1 68 (by omega)]) (by rw [g1 68 (by omega)]) (fun k hk _ => g1 k (by omega))
  have o0 : M1 75 0 = nI (s 6 a) := by rw [← hM1, wr_el (by omega)]; exact wr_same _ _ _ _
  have o1 : M1 75 1 = nI (s 6 b) := by rw [← hM1]; exact wr_same _ _ _ _
  have key := c_play (d := d + 4 - N) (ow := fun c => if c = 0 then s 6 a else s 6 b) vS_1 aS_37 hs hh N 0 (s 7 a) (s 7 b) M1 hN (by omega) (hs.sworn ha) (hs.sworn hb) hS (fun c hc => by
    by_cases z : c = 0
    · rw [z]; exact ⟨wa, o0⟩
    · have : c = 1 := by omega
      rw [this]; exact ⟨wb, o1⟩)
  rw [show d + 4 - N + 4 + N = d + 8 by omega] at key
  refine key.mono (fun r M2 hr => ?_)
  obtain ⟨rfl, t2, g2⟩ := hr
  obtain ⟨n', rfl⟩ : ∃ n', N = n' + 1 := ⟨N - 1, by omega⟩
  exact ⟨_, rfl, rfl, t2 n' rfl, fun k k1 k2 => (g2 k k1).trans (g1 k k2)⟩
