/-! the model's law; law on both -/
section LW
variable {T : Nat → Nat} {n d : Nat} {M0 M : Mem} {a : Nat} {l : VD}
theorem m_takesX (hB : BMt T n M0) (h : MTx n M0 M a l) (c : Nat) (hc : c < 256) (hd : 1 ≤ d) {P : Int32 → Mem → Prop} (f : ∀ e, clo T n c a l = .inl e → ∀ M', MFx M0 e M' → P 0 M') (g : ∀ b l', clo T n c a l = .inr (b, l') → ∀ M', MTx n M0 M' b l' → P 1 M') : AMi d iX10_takes [.ref 77, .int (nI c)] M P := by
  obtain ⟨d, rfl⟩ : ∃ d', d = d' + 1 := ⟨d - 1, by omega⟩
  refine eX10_takes M _ (bX10_takes_0 M _ ((m_hereX hB h).i ⟨fun z => ?_, fun z => ?_⟩))
  · have q := (sg_eqM hB hc).mp z
    have han := hr_lt (T := T) (n := n) (a := a) (by omega)
    obtain ⟨h1, ⟨p1, p2, p3, p4⟩, m1, m2, m3, m4, m5⟩ := h
    rw [m1, nI_1]
    refine ⟨1, rfl, g (a + 1) l (by rw [clo, if_pos q]) _ ⟨h1.wo 11 _ (by decide), ⟨han, by omega, p3, p4⟩, wr_same _ _ _ _, by rw [wr_el (by decide)]; exact m2, by rw [wr_el (by decide)]; exact m3, fun k hk => by rw [wr_row (by decide)]; exact m4 k hk, fun j hj => ?_⟩⟩
    rw [wr_row (by decide), wr_row (by decide), wr_row (by decide), wr_row (by decide)]; exact m5 j hj
  · exact m_wrongX h 1 (fun M' h' => ⟨Or.inl rfl, 0, rfl, f _ (by rw [clo, if_neg (fun w => z ((sg_eqM hB hc).mpr w))]) M' h'⟩)
end LW
/-- the other law is not touched -/
theorem LM.other {w w' : Nat} {l : VD} {M M' : Mem} (h : LM w' M l) (hl : WFL l) (hne : w' ≠ w) (h91 : ∀ i, i ≠ w → M' 91 i = M 91 i) (h90 : ∀ i, (i < 180 * w ∨ 180 * w + 180 ≤ i) → M' 90 i = M 90 i) (h9 : ∀ r, 92 ≤ r → r ≤ 95 → ∀ i, (i < 12 * w ∨ 12 * w + 12 ≤ i) → M' r i = M r i) : LM w' M' l := by
  obtain ⟨q1, q2, q3⟩ := h
  have w1 := hl.1
  have w2 := hl.2.1
  refine ⟨by rw [h91 _ hne]; exact q1, fun k hk => ?_, fun c hc => ?_⟩
  · rw [h90 _ (by omega)]; exact q2 k hk
  · rw [h9 92 (by omega) (by omega) _ (by omega), h9 93 (by omega) (by omega) _ (by omega), h9 94 (by omega) (by omega) _ (by omega), h9 95 (by omega) (by omega) _ (by omega)]; exact q3 c hc
theorem c_lawM {S : SS} {M : Mem} (hW : WF S) (h : RM M S) {w n : Nat} (hw : w ≤ 1) (h1 : 1 ≤ n) (hn : n ≤ 160) (ht : n ≤ S 4 0 1) : AMi 60 iX10_law [.ref 77, .int (nI w), .int (nI n)] M (fun r M' => r = lawX (txtR (S 4 1) n) ∧ FrC M M' ∧ RM M' (lawS S w (txtR (S 4 1) n))) := by
  have ht2 := hW.2.2.2.1
  have w8 := hW.2.2.2.2.2.2.2.1
  have w9 := hW.2.2.2.2.2.2.2.2
  have hWt : ∀ b l, txtR (S 4 1) n = .inr (b, l) → WFL l := fun b l e => txtR_W hn e
  refine eX10_law M _ _ (bX10_law_0 M _ _ ⟨fun z => absurd z (out_nI (a := 0) (b := 1) (by omega) (by omega) (by omega) (by omega) hw), fun _ => ⟨fun z => absurd z (out_nI (a := 1) (b := 160) (by omega) (by omega) (by omega) h1 hn), fun _ => ?_⟩⟩)
  rw [h.2.2.1.1]
  refine bq_le _ _ rfl rfl (by omega) (by omega) (fun _ => ?_) (fun z => by omega)
  have F1 : Fr 77 [84, 85, 86, 87, 88, 89, 90, 91, 92, 93, 94, 95] [10, 11, 12, 13, 14, 15, 16, 17, 18] M (wr (wr (wr (wr M 77 11 0) 77 12 (nI n)) 77 15 0) 77 17 0) := (((Fr.rf.wo 11 _ (by decide)).wo 12 _ (by decide)).wo 15 _ (by decide)).wo 17 _ (by decide)
  have e9 : ∀ k, k ≠ 77 → wr (wr (wr (wr M 77 11 0) 77 12 (nI n)) 77 15 0) 77 17 0 k = M k := fun k hk => by rw [wr_row hk, wr_row hk, wr_row hk, wr_row hk]
  have hB : BMt (S 4 1) n (wr (wr (wr (wr M 77 11 0) 77 12 (nI n)) 77 15 0) 77 17 0) := by
    refine ⟨hn, by rw [wr_el (by decide), wr_el (by decide), wr_same], fun j hj => ⟨hW.2.2.2.2.1 j (by omega), ?_⟩⟩
    rw [e9 83 (by decide)]; exact h.2.2.1.2 j (by omega)
  have h0 : MTx n (wr (wr (wr (wr M 77 11 0) 77 12 (nI n)) 77 15 0) 77 17 0) (wr (wr (wr (wr M 77 11 0) 77 12 (nI n)) 77 15 0) 77 17 0) 0 l00 := by
    refine ⟨Fr.rf, ⟨Nat.zero_le _, Nat.le_refl _, fun k hk => absurd hk (Nat.not_lt_zero _), Nat.zero_le _⟩, ?_, ?_, wr_same _ _ _ _, fun k hk => absurd hk (Nat.not_lt_zero _), fun k hk => absurd hk (Nat.not_lt_zero _)⟩
    · rw [wr_el (by decide), wr_el (by decide), wr_el (by decide), wr_same]; rfl
    · rw [wr_el (by decide), wr_same]; rfl
  generalize wr (wr (wr (wr M 77 11 0) 77 12 (nI n)) 77 15 0) 77 17 0 = M1 at F1 e9 hB h0 ⊢
  have rows : ∀ M2, MFr2 M1 M2 → ∀ k, 90 ≤ k → M2 k = M k := fun M2 g k hk => (g.1 k (by simp; omega) (by omega)).trans (e9 k (by omega))
  have f95 : ∀ e M2, txtR (S 4 1) n = .inl e → MFx M1 e M2 → AX10_law 60 (fun r M' => ∃ x, r = some x ∧ x = lawX (txtR (S 4 1) n) ∧ FrC M M' ∧ RM M' (lawS S w (txtR (S 4 1) n))) 95 [lR 77, lI (nI w), none, lI 0, none] [] M2 := by
    intro e M2 he g
    rw [he]
    have F2 := (F1.tr (g.1.mono (by decide) (by decide))).wo 10 0 (by decide)
    refine bX10_law_95 M2 _ _ ⟨fun z => absurd rfl z, fun _ => ⟨_, rfl, g.2, F2.low (by decide), VM.fr h.1 F2 rfl rfl, KM.fr h.2.1 F2 rfl rfl, ⟨wr_same _ _ _ _, fun j hj => by have : j < 0 := hj; omega⟩, GM.fr h.2.2.2.1 F2 rfl rfl, ?_, ?_⟩⟩
    · have rr := rows M2 g.1
      show LM 0 _ (S 2)
      rw [LM, wr_row (by decide), wr_row (by decide), wr_row (by decide), wr_row (by decide), wr_row (by decide), wr_row (by decide), rr 90 (by omega), rr 91 (by omega), rr 92 (by omega), rr 93 (by omega), rr 94 (by omega), rr 95 (by omega)]
      exact h.2.2.2.2.1
    · have rr := rows M2 g.1
      show LM 1 _ (S 3)
      rw [LM, wr_row (by decide), wr_row (by decide), wr_row (by decide), wr_row (by decide), wr_row (by decide), wr_row (by decide), rr 90 (by omega), rr 91 (by omega), rr 92 (by omega), rr 93 (by omega), rr 94 (by omega), rr 95 (by omega)]
      exact h.2.2.2.2.2
  have k95 : ∀ b l M2, txtR (S 4 1) n = .inr (b, l) → MTx n M1 M2 b l → AX10_law 60 (fun r M' => ∃ x, r = some x ∧ x = lawX (txtR (S 4 1) n) ∧ FrC M M' ∧ RM M' (lawS S w (txtR (S 4 1) n))) 95 [lR 77, lI (nI w), none, lI 1, none] [] M2 := by
    intro b l M2 he g
    have wl := hWt b l he
    rw [he]
    obtain ⟨g1, ⟨p1, p2, p3, p4⟩, m1, m2, m3, m4, m5⟩ := g
    have F2 := (F1.tr (g1.mono (by decide) (by decide)))
    have rr := rows M2 g1
    refine bX10_law_95 M2 _ _ ⟨fun _ => ⟨vp_in_nI (by omega) (by decide), ?_⟩, fun z => absurd z (by decide)⟩
    rw [ix_nI (n := w) (by omega), m3]
    have F3 : Fr 77 [84, 85, 86, 87, 88, 89, 90, 91, 92, 93, 94, 95] [10, 11, 12, 13, 14, 15, 16, 17, 18] M (wr (wr M2 77 10 0) 91 w (nI (l 0 0))) := (F2.wo 10 _ (by decide)).w 91 _ _ (by decide) (by decide)
    have a77 : ∀ j, j ≠ 10 → wr (wr M2 77 10 0) 91 w (nI (l 0 0)) 77 j = M2 77 j := fun j hj => by rw [wr_row (by decide), wr_el hj]
    have a10 : wr (wr M2 77 10 0) 91 w (nI (l 0 0)) 77 10 = 0 := by rw [wr_row (by decide), wr_same]
    have ar : ∀ k, k ≠ 77 → k ≠ 91 → wr (wr M2 77 10 0) 91 w (nI (l 0 0)) k = M2 k := fun k h1 h2 => by rw [wr_row h2, wr_row h1]
    have a91 : wr (wr M2 77 10 0) 91 w (nI (l 0 0)) 91 w = nI (l 0 0) := wr_same _ _ _ _
    have a91o : ∀ i, i ≠ w → wr (wr M2 77 10 0) 91 w (nI (l 0 0)) 91 i = M 91 i := fun i hi => by rw [wr_el hi, wr_row (by decide), rr 91 (by omega)]
    generalize wr (wr M2 77 10 0) 91 w (nI (l 0 0)) = M3 at F3 a77 a10 ar a91 a91o ⊢
    have e180 : (180 : Int32) * nI w = nI (180 * w) := by rw [show (180 : Int32) = nI 180 from rfl, pk_mul]
    have e12 : (12 : Int32) * nI w = nI (12 * w) := by rw [show (12 : Int32) = nI 12 from rfl, pk_mul]
    refine up_loop (P := fun k => ∀ M4, (∀ r, r ≠ 90 → M4 r = M3 r) → (∀ j, j < k → M4 90 (180 * w + j) = M2 84 j) → (∀ i, (i < 180 * w ∨ 180 * w + k ≤ i) → M4 90 i = M3 90 i) → AX10_law 60 (fun r M' => ∃ x, r = some x ∧ x = lawX (.inr (b, l)) ∧ FrC M M' ∧ RM M' (lawS S w (.inr (b, l)))) 122 [lR 77, lI (nI w), none, none, lI (nI k)] [] M4) (l 0 1) 0 (by omega) ?_ ?_ M3 (fun _ _ => rfl) (fun j hj => by omega) (fun _ _ => rfl)
    · intro M4 u1 u2 u3
      refine bX10_law_122 M4 _ _ ?_
      rw [u1 77 (by decide), a77 15 (by decide), m2]
      refine bq_le _ _ rfl rfl (by omega) (by omega) (fun _ => ?_) (fun z => by omega)
      refine up_loop (P := fun k => ∀ M5, (∀ r, r ≠ 92 → r ≠ 93 → r ≠ 94 → r ≠ 95 → M5 r = M4 r) → (∀ j, j < k → M5 92 (12 * w + j) = nI (l 3 j) ∧ M5 93 (12 * w + j) = nI (180 * w + l 4 j) ∧ M5 94 (12 * w + j) = nI (180 * w + l 5 j) ∧ M5 95 (12 * w + j) = nI (180 * w + l 6 j)) → (∀ r, 92 ≤ r → r ≤ 95 → ∀ i, (i < 12 * w ∨ 12 * w + k ≤ i) → M5 r i = M3 r i) → AX10_law 60 (fun r M' => ∃ x, r = some x ∧ x = lawX (.inr (b, l)) ∧ FrC M M' ∧ RM M' (lawS S w (.inr (b, l)))) 160 [lR 77, lI (nI w), none, none, lI (nI k)] [] M5) (l 0 0) 0 (by omega) ?_ ?_ M4 (fun _ _ _ _ _ => rfl) (fun j hj => by omega) (fun r r1 r2 i _ => by rw [u1 r (by omega)])
      · intro M5 v1 v2 v3
        refine bX10_law_160 M5 _ _ ?_
        have e17 : M5 77 17 = nI (l 0 0) := by rw [v1 77 (by decide) (by decide) (by decide) (by decide), u1 77 (by decide), a77 17 (by decide), m3]
        rw [e17]
        refine bq_le _ _ rfl rfl (by omega) (by omega) (fun _ => ⟨_, rfl, rfl, ?_⟩) (fun z => by omega)
        have F5 : Fr 77 [84, 85, 86, 87, 88, 89, 90, 91, 92, 93, 94, 95] [10, 11, 12, 13, 14, 15, 16, 17, 18] M M5 := by
          refine ⟨fun k hk hko => ?_, fun j hj => ?_⟩
          · have hk' := hk
            simp at hk
            rw [v1 k (by omega) (by omega) (by omega) (by omega), u1 k (by omega)]
            exact F3.1 k hk' hko
          · rw [v1 77 (by decide) (by decide) (by decide) (by decide), u1 77 (by decide)]
            exact F3.2 j hj
        have new : LM w M5 l := by
          refine ⟨?_, fun k hk => ?_, fun c hc => ?_⟩
          · rw [v1 91 (by decide) (by decide) (by decide) (by decide), u1 91 (by decide)]; exact a91
          · rw [v1 90 (by decide) (by decide) (by decide) (by decide), u2 k hk]; exact m4 k hk
          · exact v2 c hc
        have old : ∀ w' l', w' ≠ w → w' ≤ 1 → WFL l' → LM w' M l' → LM w' M5 l' := fun w' l' hne hle hl' hLM => by
          refine hLM.other hl' hne (fun i hi => ?_) (fun i hi => ?_) (fun r r1 r2 i hi => ?_)
          · rw [v1 91 (by decide) (by decide) (by decide) (by decide), u1 91 (by decide)]; exact a91o i hi
          · rw [v1 90 (by decide) (by decide) (by decide) (by decide), u3 i (by have := wl.2.1; omega), ar 90 (by decide) (by decide), rr 90 (by omega)]
          · rw [v3 r r1 r2 i (by have := wl.1; omega), ar r (by omega) (by omega), rr r (by omega)]
        refine ⟨F5.low (by decide), ?_⟩
        have TM5 : TMp M5 0 (S 4 1) := ⟨by rw [v1 77 (by decide) (by decide) (by decide) (by decide), u1 77 (by decide), a10]; rfl, fun j hj => by omega⟩
        rcases (show w = 0 ∨ w = 1 by omega) with rfl | rfl
        · exact ⟨VM.fr h.1 F5 rfl rfl, KM.fr h.2.1 F5 rfl rfl, TM5, GM.fr h.2.2.2.1 F5 rfl rfl, new, old 1 (S 3) (by omega) (by omega) w9 h.2.2.2.2.2⟩
        · exact ⟨VM.fr h.1 F5 rfl rfl, KM.fr h.2.1 F5 rfl rfl, TM5, GM.fr h.2.2.2.1 F5 rfl rfl, old 0 (S 2) (by omega) (by omega) w8 h.2.2.2.2.1, new⟩
      · intro k _ hk ih M5 v1 v2 v3
        refine bX10_law_160 M5 _ _ ?_
        have e17 : M5 77 17 = nI (l 0 0) := by rw [v1 77 (by decide) (by decide) (by decide) (by decide), u1 77 (by decide), a77 17 (by decide), m3]
        have r86 : ∀ r, 86 ≤ r → r ≤ 89 → M5 r = M2 r := fun r r1 r2 => by rw [v1 r (by omega) (by omega) (by omega) (by omega), u1 r (by omega), ar r (by omega) (by omega)]
        obtain ⟨x1, x2, x3, x4⟩ := m5 k hk
        have vk : vp_in (nI k) 12 := vp_in_nI (by omega) (by decide)
        have vw : vp_in (nI (12 * w + k)) 24 := vp_in_nI (by omega) (by decide)
        rw [e17, e180, e12, nI_add, ix_nI (n := k) (by omega), ix_nI (n := 12 * w + k) (by omega), r86 86 (by omega) (by omega), r86 87 (by omega) (by omega), r86 88 (by omega) (by omega), r86 89 (by omega) (by omega), x1, x2, x3, x4, nI_add, nI_add, nI_add, nI_1]
        refine bq_le _ _ rfl rfl (by omega) (by omega) (fun z => by omega) (fun _ => ⟨vk, vw, vk, vw, vk, vw, vk, vw, ?_⟩)
        have W92 : ∀ i, wr (wr (wr (wr M5 92 (12 * w + k) (nI (l 3 k))) 93 (12 * w + k) (nI (180 * w + l 4 k))) 94 (12 * w + k) (nI (180 * w + l 5 k))) 95 (12 * w + k) (nI (180 * w + l 6 k)) 92 i = wr M5 92 (12 * w + k) (nI (l 3 k)) 92 i := fun i => by rw [wr_row (by decide), wr_row (by decide), wr_row (by decide)]
        have W93 : ∀ i, wr (wr (wr (wr M5 92 (12 * w + k) (nI (l 3 k))) 93 (12 * w + k) (nI (180 * w + l 4 k))) 94 (12 * w + k) (nI (180 * w + l 5 k))) 95 (12 * w + k) (nI (180 * w + l 6 k)) 93 i = wr (wr M5 92 (12 * w + k) (nI (l 3 k))) 93 (12 * w + k) (nI (180 * w + l 4 k)) 93 i := fun i => by rw [wr_row (by decide), wr_row (by decide)]
        have W94 : ∀ i, wr (wr (wr (wr M5 92 (12 * w + k) (nI (l 3 k))) 93 (12 * w + k) (nI (180 * w + l 4 k))) 94 (12 * w + k) (nI (180 * w + l 5 k))) 95 (12 * w + k) (nI (180 * w + l 6 k)) 94 i = wr (wr (wr M5 92 (12 * w + k) (nI (l 3 k))) 93 (12 * w + k) (nI (180 * w + l 4 k))) 94 (12 * w + k) (nI (180 * w + l 5 k)) 94 i := fun i => by rw [wr_row (by decide)]
        refine ih _ (fun r r1 r2 r3 r4 => by rw [wr_row r4, wr_row r3, wr_row r2, wr_row r1]; exact v1 r r1 r2 r3 r4) (fun j hj => ?_) (fun r r1 r2 i hi => ?_)
        · rw [W92, W93, W94]
          by_cases z : j = k
          · subst z; rw [wr_same, wr_same, wr_same, wr_same]; exact ⟨rfl, rfl, rfl, rfl⟩
          · rw [wr_el (by omega), wr_el (by omega), wr_el (by omega), wr_el (by omega), wr_row (show (93 : Nat) ≠ 92 by decide), wr_row (show (94 : Nat) ≠ 93 by decide), wr_row (show (94 : Nat) ≠ 92 by decide), wr_row (show (95 : Nat) ≠ 94 by decide), wr_row (show (95 : Nat) ≠ 93 by decide), wr_row (show (95 : Nat) ≠ 92 by decide)]
            exact v2 j (by omega)
        · have := v3 r r1 r2 i (by omega)
          rcases (show r = 92 ∨ r = 93 ∨ r = 94 ∨ r = 95 by omega) with rfl | rfl | rfl | rfl
          · rw [W92, wr_el (by omega)]; exact this
          · rw [W93, wr_el (by omega), wr_row (by decide)]; exact this
          · rw [W94, wr_el (by omega), wr_row (by decide), wr_row (by decide)]; exact this
          · rw [wr_el (by omega), wr_row (by decide), wr_row (by decide), wr_row (by decide)]; exact this
    · intro k _ hk ih M4 u1 u2 u3
      refine bX10_law_122 M4 _ _ ?_
      rw [u1 77 (by decide), a77 15 (by decide), m2, e180, nI_add, ix_nI (n := k) (by omega), ix_nI (n := 180 * w + k) (by omega), u1 84 (by decide), ar 84 (by decide) (by decide), nI_1]
      refine bq_le _ _ rfl rfl (by omega) (by omega) (fun z => by omega) (fun _ => ⟨vp_in_nI (by omega) (by decide), vp_in_nI (by omega) (by decide), ih _ (fun r hr => (wr_row hr).trans (u1 r hr)) (fun j hj => ?_) (fun i hi => by rw [wr_el (by omega)]; exact u3 i (by omega))⟩)
      by_cases z : j = k
      · subst z; rw [wr_same]
      · rw [wr_el (by omega)]; exact u2 j (by omega)
  have key : ∀ k a l M2, n - a < k → WFL l → MTx n M1 M2 a l → (∀ e, txtS (S 4 1) n k a l = .inl e → txtR (S 4 1) n = .inl e) → (∀ b l', txtS (S 4 1) n k a l = .inr (b, l') → txtR (S 4 1) n = .inr (b, l')) → AX10_law 60 (fun r M' => ∃ x, r = some x ∧ x = lawX (txtR (S 4 1) n) ∧ FrC M M' ∧ RM M' (lawS S w (txtR (S 4 1) n))) 55 [lR 77, lI (nI w), none, lI 1, none] [] M2 := by
    intro k
    induction k with
    | zero => intro a l M2 hk; omega
    | succ k ih =>
      intro a l M2 hk hwl g f1 f2
      have ha := g.2.1.1
      refine bX10_law_55 M2 _ _ ⟨fun z => absurd z (by decide), fun _ => ?_⟩
      rw [g.fin hB, g.2.2.1]
      refine bq_le _ _ rfl rfl (by omega) (by omega) (fun z => k95 a l M2 (f2 a l (by rw [txtS, if_neg (by omega)])) g) (fun z => ?_)
      have E : txtS (S 4 1) n (k + 1) a l = pb (clo (S 4 1) n 59 a l) (fun b l' => pb (claS (S 4 1) n b l') (txtS (S 4 1) n k)) := by rw [txtS, if_pos z]
      rw [E] at f1 f2
      refine m_takesX hB g 59 (by decide) (by omega) (fun e he M3 h3 => ⟨fun _ => bX10_law_55 M3 _ _ ⟨fun _ => f95 e M3 (f1 e (pb_l he)) h3, fun z => absurd rfl z⟩, fun z => absurd rfl z⟩) (fun b l' he M3 h3 => ⟨fun z => absurd z (by decide), fun _ => ?_⟩)
      obtain ⟨c1, rfl, rfl⟩ := clo_G (by omega) he
      rw [pb_r he] at f1 f2
      refine m_clause hB h3 (by omega) (fun e he2 M4 h4 => ⟨fun _ => bX10_law_55 M4 _ _ ⟨fun _ => f95 e M4 (f1 e (pb_l he2)) h4, fun z => absurd rfl z⟩, fun z => absurd rfl z⟩) (fun b2 l2 he2 M4 h4 => ⟨fun z => absurd z (by decide), fun _ => ?_⟩)
      obtain ⟨q1, q2, q3, q4⟩ := h3.2.1
      obtain ⟨y1, y2, y3, y4, y5⟩ := claS_W hn q1 q2 q3 hwl he2
      rw [pb_r he2] at f1 f2
      exact ih b2 l2 M4 (by omega) y5 h4 f1 f2
  refine m_clause hB h0 (by omega) (fun e he M3 h3 => ?_) (fun b l he M3 h3 => ?_)
  · exact bX10_law_55 M3 _ _ ⟨fun _ => f95 e M3 (pb_l he) h3, fun z => absurd rfl z⟩
  · obtain ⟨y1, y2, y3, y4, y5⟩ := claS_W hn (Nat.zero_le _) (Nat.le_refl _) (fun k hk => absurd hk (Nat.not_lt_zero _)) l00_W he
    exact key 161 b l M3 (by omega) y5 h3 (fun e h => by rw [txtR, pb_r he]; exact h) (fun b l h => by rw [txtR, pb_r he]; exact h)
theorem lawS_W {S : SS} (hW : WF S) {w n : Nat} (hn : n ≤ 160) (hw : w ≤ 1) : WF (lawS S w (txtR (S 4 1) n)) := by
  have hWt : ∀ b l, txtR (S 4 1) n = .inr (b, l) → WFL l := fun b l e => txtR_W hn e
  have h0 : WF (setS S 4 (setT (S 4) 0 (S 4 1))) := hW.t4 (by omega) (fun j hj => by omega)
  generalize txtR (S 4 1) n = r at hWt
  match r, hWt with
  | .inl e, _ => exact h0
  | .inr (b, l), hWt =>
    have := hWt b l rfl
    obtain ⟨w1, w2, w3, w4, w5, w6, w7, w8, w9⟩ := h0
    rcases (show w = 0 ∨ w = 1 by omega) with rfl | rfl
    · exact ⟨w1, w2, w3, w4, w5, w6, w7, this, w9⟩
    · exact ⟨w1, w2, w3, w4, w5, w6, w7, w8, this⟩
theorem op_law {S : SS} (hW : WF S) (x1 x2 : Int32) : Op S iX9_law iX10_law [.int x1, .int x2] := by
  have ht := hW.2.2.2.1
  by_cases hc : ¬ inV x1 0 1 = 0 ∧ ¬ inV x2 1 160 = 0 ∧ ix x2 ≤ S 4 0 1
  · obtain ⟨c1, c2, c3⟩ := hc
    obtain ⟨b1, b2, b3⟩ := in_nI 0 1 (by omega) (by omega) c1
    obtain ⟨d1, d2, d3⟩ := in_nI 1 160 (by omega) (by omega) c2
    generalize ix x1 = w at b1 b2 b3
    generalize ix x2 = n at d1 d2 d3 c3
    subst b3 d3
    exact ⟨lawX (txtR (S 4 1) n), lawS S w (txtR (S 4 1) n), lawS_W hW d2 b2, fun M h => c_lawC hW h b2 d1 d2 c3, fun M h => c_lawM hW h b2 d1 d2 c3⟩
  · refine ⟨-1, S, hW, fun M h => ?_, fun M h => ?_⟩
    · refine eX9_law M _ _ (bX9_law_0 M _ _ ⟨fun z => ⟨_, rfl, rfl, FrM.rf M, h⟩, fun c1 => ⟨fun z => ⟨_, rfl, rfl, FrM.rf M, h⟩, fun c2 => ⟨fun z => absurd ⟨c1, c2, ?_⟩ hc, fun z => ⟨_, rfl, rfl, FrM.rf M, h⟩⟩⟩⟩)
      obtain ⟨d1, d2, d3⟩ := in_nI 1 160 (by omega) (by omega) c2
      rw [d3, h.2.2.1.1, nI_leI (by omega) (by omega)] at z
      exact z
    · refine eX10_law M _ _ (bX10_law_0 M _ _ ⟨fun z => ⟨_, rfl, rfl, FrC.rf M, h⟩, fun c1 => ⟨fun z => ⟨_, rfl, rfl, FrC.rf M, h⟩, fun c2 => ⟨fun z => absurd ⟨c1, c2, ?_⟩ hc, fun z => ⟨_, rfl, rfl, FrC.rf M, h⟩⟩⟩⟩)
      obtain ⟨d1, d2, d3⟩ := in_nI 1 160 (by omega) (by omega) c2
      rw [d3, h.2.2.1.1, nI_leI (by omega) (by omega)] at z
      exact z
