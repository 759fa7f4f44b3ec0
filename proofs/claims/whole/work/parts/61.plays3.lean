theorem c_plays {d N a b : Nat} {s l : VD} {M : Mem} (hs : WFV s) (h : VM M s) (hA : ASK M s l) (ha : a < s 0 2) (hb : b < s 0 2) (hN : N ≤ 4) (hN1 : 1 ≤ N) {hv : Nat → Nat → Nat} (hh : ∀ c x, hv c x ≤ 1 ∧ (hv c x = 1 ↔ HS s l (if c = 0 then s 6 a else s 6 b) x)) : AMv (d + 4) iX10_plays [.ref 77, .int (nI a), .int (nI b), .int (nI N)] M (fun M' => M' 107 0 = cI (plV s l hv (N - 1) 0 (s 7 a) (s 7 b) 16).1 ∧ M' 77 49 = cI (plV s l hv (N - 1) 0 (s 7 a) (s 7 b) 16).2 ∧ (∀ k, (k < 105 ∨ 109 < k) → k ≠ 77 → M' k = M k) ∧ ∀ j, j ≠ 49 → M' 77 j = M 77 j) := by
  have hn := hs.1
  have hO := hs.2.2.1
  have ka : M 101 a = nI (s 7 a) := h.2 7 a (by decide) (by decide) (show a < 12 by omega)
  have kb : M 101 b = nI (s 7 b) := h.2 7 b (by decide) (by decide) (show b < 12 by omega)
  refine eX10_plays M _ _ _ (bX10_plays_0 M _ _ _ ⟨vp_in_nI (by omega) (by decide), vp_in_nI (by omega) (by decide), ?_⟩)
  rw [ix_nI (n := a) (by omega), ix_nI (n := b) (by omega), ka, kb]
  have r : ∀ k, (k < 105 ∨ 109 < k) → wr (wr (wr (wr M 108 0 (nI (s 7 a))) 109 0 (nI (s 7 b))) 106 0 (-2)) 107 0 1000000000 k = M k := fun k hk => by rw [wr_row (by omega), wr_row (by omega), wr_row (by omega), wr_row (by omega)]
  refine plays_lv (d := d) hs ha hb hN hh (N - 1) 0 (s 7 a) (s 7 b) _ (by omega) (h.off8 (fun k hk => r k (by omega))) (fun x y q1 q2 => by rw [r 98 (by omega)]; exact hA x y q1 q2) (hs.sworn ha) (hs.sworn hb) ?_ (wr_same _ _ _ _) ?_ ?_ (fun M' g e6 e7 e49 => ?_)
  · rw [wr_row (by omega)]; exact wr_same _ _ _ _
  · rw [wr_row (by omega), wr_row (by omega), wr_row (by omega)]; exact wr_same _ _ _ _
  · rw [wr_row (by omega), wr_row (by omega)]; exact wr_same _ _ _ _
  · have kn : M' 77 0 = nI (s 0 0) := by rw [g.2.1 0 (by omega), r 77 (by omega)]; exact h.1 0 (by decide)
    have v0 : vp_in (nI 0) 5 := vp_in_nI (by omega) (by decide)
    refine bX10_plays_44 M' _ _ _ _ ⟨fun z => absurd z (by decide), fun _ => ⟨v0, v0, v0, ?_⟩⟩
    rw [ix_nI (n := 0) (by omega), e6, cI_s, wr_same, kn]
    refine ⟨fun z => absurd z (by rw [show cI (s 0 0 + 1) = nI (s 0 0) from nI_pred _]; exact fun w => Int32.lt_irrefl w), fun _ => ⟨fun _ => ?_, fun z => absurd (by decide : nI 0 - 1 < (0 : Int32)) z⟩⟩
    refine bX10_plays_44 _ _ _ _ _ ⟨fun _ => ⟨rfl, ?_, ?_, fun k q1 q2 => ?_, fun j hj => ?_⟩, fun z => absurd (by decide : nI 0 - 1 < (0 : Int32)) z⟩
    · rw [wr_row (by omega)]; exact e7
    · rw [wr_row (by omega)]; exact e49 rfl
    · rw [wr_row (by omega), g.1 k q1 q2]; exact r k q1
    · rw [wr_row (by omega), g.2.1 j hj, r 77 (by omega)]
