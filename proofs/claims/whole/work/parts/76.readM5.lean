/-! the model reads clauses -/
abbrev MFr2 (M0 M : Mem) : Prop := Fr 77 [84, 85, 86, 87, 88, 89] [11, 13, 14, 15, 16, 17, 18] M0 M
theorem MFr.two {M0 M : Mem} (h : MFr M0 M) : MFr2 M0 M := h.mono (by decide) (by decide)
def MXr (M : Mem) (l : VD) (c : Nat) : Prop := ∀ j, j < c → M 86 j = nI (l 3 j) ∧ M 87 j = nI (l 4 j) ∧ M 88 j = nI (l 5 j) ∧ M 89 j = nI (l 6 j)
def MTx (n : Nat) (M0 M : Mem) (a : Nat) (l : VD) : Prop := MFr2 M0 M ∧ (a ≤ n ∧ l 0 1 ≤ a ∧ LB l ∧ l 0 0 ≤ 12) ∧ M 77 11 = nI a ∧ M 77 15 = nI (l 0 1) ∧ M 77 17 = nI (l 0 0) ∧ (∀ k, k < l 0 1 → M 84 k = nI (1048576 * opN (l 1 k) + l 2 k)) ∧ MXr M l (l 0 0)
def MFx (M0 : Mem) (e : Nat) (M : Mem) : Prop := MFr2 M0 M ∧ M 77 13 = -(nI e)
section MC
variable {T : Nat → Nat} {n d : Nat} {M0 M M5 : Mem} {a : Nat} {l : VD}
theorem MTx.fin (hB : BMt T n M0) (h : MTx n M0 M a l) : M 77 12 = nI n := (h.1.2 12 (by decide)).trans hB.2.1
theorem BMt.go (hB : BMt T n M0) (h : MFr2 M0 M) : BMt T n M := ⟨hB.1, (h.2 12 (by decide)).trans hB.2.1, fun j hj => ⟨(hB.2.2 j hj).1, by rw [h.1 83 (by decide) (by decide)]; exact (hB.2.2 j hj).2⟩⟩
theorem m_hereX (hB : BMt T n M0) (h : MTx n M0 M a l) : AMp d iX10_here [.ref 77] M (sgV T n a) := by
  have hn := hB.1
  have hB2 := hB.go h.1
  have ha := h.2.1.1
  refine eX10_here M (bX10_here_0 M ?_)
  rw [hB2.2.1, h.2.2.1]
  refine bq_le _ _ rfl rfl (by omega) (by omega) (fun z => ⟨by rw [sgV, if_neg (by omega)], rfl⟩) (fun z => ⟨vp_in_nI (by omega) (by decide), ?_, rfl⟩)
  rw [ix_nI (by omega), (hB2.2.2 a z).2, sgV, if_pos z]
theorem m_wrongX (h : MTx n M0 M a l) (w : Nat) {P : Int32 → Mem → Prop} (k : ∀ M', MFx M0 (1000 * w + a) M' → P 0 M') : AMi d iX10_wrongAt [.ref 77, .int (nI w), .int (M 77 11)] M P := by
  refine eX10_wrongAt M _ _ (bX10_wrongAt_0 M _ _ ⟨_, rfl, k _ ⟨h.1.wo 13 _ (by decide), ?_⟩⟩)
  rw [wr_same, h.2.2.1]; exact fv_eq w a
theorem m_clause122 (hB : BMt T n M5) {b c : Nat} {l2 : VD} (h : MSt n M5 M b l2 [] 0) (hc : c < 12) (h17 : M5 77 17 = nI c) (hl : l2 0 0 = c) (hX : MXr M5 l2 c) (x3 : M5 86 c = nI (l2 3 c)) (x4 : M5 87 c = nI (l2 4 c)) (hd : 6 ≤ d) {P : Int32 → Mem → Prop} (f : ∀ e, claC T n (.inr (b, l2)) = .inl e → ∀ M', MFx M5 e M' → P 0 M') (g : ∀ e l', claC T n (.inr (b, l2)) = .inr (e, l') → ∀ M', MTx n M5 M' e l' → P 1 M') : AX10_readsClause (d + 1) (fun r M' => ∃ x, r = some x ∧ P x M') 122 [lR 77, none] [] M := by
  have hn := hB.1
  subst hl
  have m17 : M 77 17 = nI (l2 0 0) := (h.1.2 17 (by decide)).trans h17
  obtain ⟨h1, ⟨p1, p2, p3, p4, p5, p6⟩, m1, m2, m3, m4, m5, m6⟩ := h
  have p2 : l2 0 1 + 0 ≤ b := p2
  refine bX10_readsClause_122 M ?_
  rw [m17, ix_nI (by omega), m3]
  refine ⟨vp_in_nI hc (by decide), ?_⟩
  have n3 : wrN l2 5 (l2 0 0) (l2 0 1) 0 1 = l2 0 1 := wrN_ne (by omega)
  have F7 : MFr2 M5 (wr M 88 (l2 0 0) (nI (l2 0 1))) := h1.two.w 88 _ _ (by decide) (by decide)
  have hB7 := hB.go F7
  have h7 : MSt n (wr M 88 (l2 0 0) (nI (l2 0 1))) (wr M 88 (l2 0 0) (nI (l2 0 1))) b (wrN l2 5 (l2 0 0) (l2 0 1)) [] 0 := by
    refine ⟨Fr.rf, ⟨p1, by rw [n3]; exact p2, p3, p4, fun k hk => ?_, fun q hq => by cases hq⟩, ?_, ?_, ?_, ?_, fun k hk => ?_, trivial⟩
    · rw [n3] at hk; rw [wrN_ne (by omega)]; exact p5 k hk
    · rw [wr_row (by decide)]; exact m1
    · rw [wr_row (by decide)]; exact m2
    · rw [wr_row (by decide), n3]; exact m3
    · rw [wr_row (by decide)]; exact m4
    · rw [n3] at hk; rw [wr_row (by decide), wrN_ne (by omega), wrN_ne (by omega)]; exact m5 k hk
  have hD : pb (pb (clo T n 40 b (wrN l2 5 (l2 0 0) (l2 0 1))) (choOf T n (pieS T n 5))) (clo T n 41) = claD T n (.inr (b, l2)) := rfl
  refine m_condition hB7 h7 hd (fun e he M' h' => ⟨fun z => absurd rfl z, fun _ => ⟨0, rfl, f e ?_ M' ⟨F7.tr h'.1.two, h'.2⟩⟩⟩) (fun e l4 he M1 h1' => ⟨fun _ => ?_, fun z => absurd z (by decide)⟩)
  · rw [hD] at he
    rw [claC, he]; rfl
  · rw [hD] at he
    obtain ⟨b', l2', e1, k1, k2, k3, k4, k5, k6, k7⟩ := claD_ok hn he (fun b3 l3 e => by cases e; exact ⟨p1, by omega, p5⟩)
    cases e1
    have n4 : l4 0 0 = l2 0 0 := k6.2.1.trans (wrN_ne (by omega))
    have q17 : M1 77 17 = nI (l2 0 0) := by rw [h1'.1.2 17 (by decide), wr_row (by decide)]; exact m17
    have q15 : M1 77 15 = nI (l4 0 1) := h1'.2.2.2.2.1
    rw [q17, ix_nI (by omega), nI_1, q15]
    refine ⟨vp_in_nI hc (by decide), 1, rfl, g e (wrN (wrN l4 6 (l4 0 0) (l4 0 1)) 0 0 (l4 0 0 + 1)) (by rw [claC, he]; rfl) _ ?_⟩
    have F1 := F7.tr h1'.1.two
    have r0 : ∀ k, k ≠ 77 → k ≠ 84 → k ≠ 85 → k ≠ 88 → M1 k = M5 k := fun k a1 a2 a3 a4 => by
      rw [h1'.1.1 k (by simp; omega) a1, wr_row a4, h1.1 k (by simp; omega) a1]
    have r88 : ∀ j, j ≠ l2 0 0 → M1 88 j = M5 88 j := fun j hj => by rw [h1'.1.1 88 (by decide) (by decide), wr_el hj, h1.1 88 (by decide) (by decide)]
    have r88c : M1 88 (l2 0 0) = nI (l2 0 1) := by rw [h1'.1.1 88 (by decide) (by decide), wr_same]
    have L : ∀ r j, 3 ≤ r → r ≠ 5 → l4 r j = l2 r j := fun r j h1 h2 => (k6.2.2 r j h1).trans (wrN_ne (by omega))
    have L5 : ∀ j, j ≠ l2 0 0 → l4 5 j = l2 5 j := fun j h1 => (k6.2.2 5 j (by omega)).trans (wrN_ne (by omega))
    have L5c : l4 5 (l2 0 0) = l2 0 1 := (k6.2.2 5 _ (by omega)).trans (wrN_same _ _ _ _)
    have G1 : wrN (wrN l4 6 (l4 0 0) (l4 0 1)) 0 0 (l4 0 0 + 1) 0 1 = l4 0 1 := by rw [wrN_ne (by omega), wrN_ne (by omega)]
    have G0 : wrN (wrN l4 6 (l4 0 0) (l4 0 1)) 0 0 (l4 0 0 + 1) 0 0 = l2 0 0 + 1 := by rw [wrN_same, n4]
    refine ⟨(F1.w 89 _ _ (by decide) (by decide)).wo 17 _ (by decide), ⟨k2, by rw [G1]; exact k3, fun k hk => ?_, by rw [G0]; omega⟩, ?_, ?_, ?_, fun k hk => ?_, fun j hj => ?_⟩
    · rw [G1] at hk; rw [wrN_ne (by omega), wrN_ne (by omega)]; exact k5 k hk
    · rw [wr_el (by decide), wr_row (by decide)]; exact h1'.2.2.1
    · rw [wr_el (by decide), wr_row (by decide), G1]; exact q15
    · rw [wr_same, G0]
    · rw [G1] at hk
      rw [wr_row (by decide), wr_row (by decide), wrN_ne (by omega), wrN_ne (by omega), wrN_ne (by omega), wrN_ne (by omega)]
      exact h1'.2.2.2.2.2.2.1 k hk
    · rw [G0] at hj
      rw [n4, wr_row (show (86 : Nat) ≠ 77 by decide), wr_row (show (87 : Nat) ≠ 77 by decide), wr_row (show (88 : Nat) ≠ 77 by decide), wr_row (show (89 : Nat) ≠ 77 by decide), wr_row (show (86 : Nat) ≠ 89 by decide), wr_row (show (87 : Nat) ≠ 89 by decide), wr_row (show (88 : Nat) ≠ 89 by decide), r0 86 (by decide) (by decide) (by decide) (by decide), r0 87 (by decide) (by decide) (by decide) (by decide)]
      rw [wrN_ne (show ¬ (3 = 0 ∧ j = 0) by omega), wrN_ne (show ¬ (4 = 0 ∧ j = 0) by omega), wrN_ne (show ¬ (5 = 0 ∧ j = 0) by omega), wrN_ne (show ¬ (6 = 0 ∧ j = 0) by omega), wrN_ne (show ¬ (3 = 6 ∧ j = l2 0 0) by omega), wrN_ne (show ¬ (4 = 6 ∧ j = l2 0 0) by omega), wrN_ne (show ¬ (5 = 6 ∧ j = l2 0 0) by omega), L 3 j (by omega) (by omega), L 4 j (by omega) (by omega)]
      by_cases z : j = l2 0 0
      · subst z
        rw [r88c, L5c, wr_same, wrN_same]
        exact ⟨x3, x4, rfl, rfl⟩
      · obtain ⟨v1, v2, v3, v4⟩ := hX j (by omega)
        rw [r88 j z, L5 j z, wr_el z, wrN_ne (fun w => z w.2), r0 89 (by decide) (by decide) (by decide) (by decide), L 6 j (by omega) (by omega)]
        exact ⟨v1, v2, v3, v4⟩
theorem m_clause (hB : BMt T n M0) (h : MTx n M0 M a l) (hd : 7 ≤ d) {P : Int32 → Mem → Prop} (f : ∀ e, claS T n a l = .inl e → ∀ M', MFx M0 e M' → P 0 M') (g : ∀ b l', claS T n a l = .inr (b, l') → ∀ M', MTx n M0 M' b l' → P 1 M') : AMi d iX10_readsClause [.ref 77] M P := by
  obtain ⟨d, rfl⟩ : ∃ d', d = d' + 1 := ⟨d - 1, by omega⟩
  have hn := hB.1
  have hB2 := hB.go h.1
  have go39 : ∀ x1 : Int32, x1 = nI (hr T n a) → (hr T n a = 110 ∨ hr T n a = 103 ∨ hr T n a = 120 ∨ hr T n a = 112) → AX10_readsClause (d + 1) (fun r M' => ∃ x, r = some x ∧ P x M') 39 [lR 77, lI x1] [] M := by
    intro x1 hx q
    subst hx
    have han := hr_lt (T := T) (n := n) (a := a) (by omega)
    refine bX10_readsClause_39 M _ ?_
    have hh := h
    obtain ⟨h1, ⟨p1, p2, p3, p4⟩, m1, m2, m3, m4, m5⟩ := h
    rw [m3]
    refine bq_ne _ 12 rfl rfl (by omega) (by omega) (fun hc => ?_) (fun hc => m_wrongX hh 4 (fun M' h' => ⟨Or.inl rfl, 0, rfl, f _ (by rw [claS, if_pos q, if_pos (by omega)]) M' h'⟩))
    have hc : l 0 0 < 12 := by omega
    have E := claS_eq T n a l q (by omega)
    rw [E] at f g
    rw [ix_nI (n := l 0 0) (by omega)]
    refine ⟨vp_in_nI hc (by decide), vp_in_nI hc (by decide), ?_⟩
    rw [m1, m2, nI_1]
    have eb : ∀ M5, M5 = wr (wr (wr (wr (wr M 86 (l 0 0) (nI (hr T n a))) 77 11 (nI (a + 1))) 87 (l 0 0) (nI (l 0 1))) 77 14 0) 77 16 0 → MFr2 M0 M5 ∧ MSt n M5 M5 (a + 1) (clab l (hr T n a)) [] 0 ∧ M5 77 17 = nI (l 0 0) ∧ MXr M5 (clab l (hr T n a)) (l 0 0) ∧ M5 86 (l 0 0) = nI (hr T n a) ∧ M5 87 (l 0 0) = nI (l 0 1) := by
      rintro M5 rfl
      refine ⟨((((h1.w 86 _ _ (by decide) (by decide)).wo 11 _ (by decide)).w 87 _ _ (by decide) (by decide)).wo 14 _ (by decide)).wo 16 _ (by decide), ⟨Fr.rf, ⟨han, by rw [clab_n.1]; show l 0 1 + 0 ≤ a + 1; omega, Nat.zero_le _, ⟨by omega, rfl⟩, fun k hk => ?_, fun q hq => by cases hq⟩, ?_, ?_, ?_, ?_, fun k hk => ?_, trivial⟩, ?_, fun j hj => ?_, ?_, ?_⟩
      · rw [clab_n.1] at hk; rw [clab_o (by omega)]; exact p3 k hk
      · rw [wr_el (by decide), wr_el (by decide), wr_row (by decide), wr_same]
      · rw [wr_el (by decide), wr_same]; rfl
      · rw [wr_el (by decide), wr_el (by decide), wr_row (by decide), wr_el (by decide), wr_row (by decide), clab_n.1]; exact m2
      · rw [wr_same]; rfl
      · rw [clab_n.1] at hk
        rw [wr_row (by decide), wr_row (by decide), wr_row (by decide), wr_row (by decide), wr_row (by decide), clab_o (by omega), clab_o (by omega)]; exact m4 k hk
      · rw [wr_el (by decide), wr_el (by decide), wr_row (by decide), wr_el (by decide), wr_row (by decide)]; exact m3
      · rw [clab_o (by omega), clab_o (by omega), clab_o (by omega), clab_o (by omega)]
        have e86 : wr (wr (wr (wr (wr M 86 (l 0 0) (nI (hr T n a))) 77 11 (nI (a + 1))) 87 (l 0 0) (nI (l 0 1))) 77 14 0) 77 16 0 86 j = M 86 j := by rw [wr_row (by decide), wr_row (by decide), wr_row (by decide), wr_row (by decide), wr_el (by omega)]
        have e87 : wr (wr (wr (wr (wr M 86 (l 0 0) (nI (hr T n a))) 77 11 (nI (a + 1))) 87 (l 0 0) (nI (l 0 1))) 77 14 0) 77 16 0 87 j = M 87 j := by rw [wr_row (by decide), wr_row (by decide), wr_el (by omega), wr_row (by decide), wr_row (by decide)]
        have e88 : wr (wr (wr (wr (wr M 86 (l 0 0) (nI (hr T n a))) 77 11 (nI (a + 1))) 87 (l 0 0) (nI (l 0 1))) 77 14 0) 77 16 0 88 = M 88 := by rw [wr_row (by decide), wr_row (by decide), wr_row (by decide), wr_row (by decide), wr_row (by decide)]
        have e89 : wr (wr (wr (wr (wr M 86 (l 0 0) (nI (hr T n a))) 77 11 (nI (a + 1))) 87 (l 0 0) (nI (l 0 1))) 77 14 0) 77 16 0 89 = M 89 := by rw [wr_row (by decide), wr_row (by decide), wr_row (by decide), wr_row (by decide), wr_row (by decide)]
        rw [e86, e87, e88, e89]
        exact m5 j hj
      · rw [wr_row (by decide), wr_row (by decide), wr_row (by decide), wr_row (by decide), wr_same]
      · rw [wr_row (by decide), wr_row (by decide), wr_same]
    obtain ⟨y1, y2, y3, y4, y5, y6⟩ := eb _ rfl
    generalize wr (wr (wr (wr (wr M 86 (l 0 0) (nI (hr T n a))) 77 11 (nI (a + 1))) 87 (l 0 0) (nI (l 0 1))) 77 14 0) 77 16 0 = M5 at y1 y2 y3 y4 y5 y6 ⊢
    have hB5 := hB.go y1
    have up : ∀ M' e l', MTx n M5 M' e l' → MTx n M0 M' e l' := fun M' e l' u => ⟨y1.tr u.1, u.2⟩
    have upF : ∀ M' e, MFx M5 e M' → MFx M0 e M' := fun M' e u => ⟨y1.tr u.1, u.2⟩
    have no : ¬ (hr T n a = 103 ∨ hr T n a = 112) → AX10_readsClause (d + 1) (fun r M' => ∃ x, r = some x ∧ P x M') 122 [lR 77, none] [] M5 := by
      intro z
      have eW : claW T n a l = .inr (a + 1, clab l (hr T n a)) := by rw [claW, if_neg z]
      rw [eW] at f g
      exact m_clause122 hB5 y2 hc y3 clab_n.2 y4 (by rw [clab_3]; exact y5) (by rw [clab_4]; exact y6) (by omega) (fun e he M' h' => f e he M' (upF M' e h')) (fun e l' he M' h' => g e l' he M' (up M' e l' h'))
    refine bq_eq _ 110 rfl rfl (by omega) (by omega) (fun z => no (by omega)) (fun z1 => bq_eq _ 120 rfl rfl (by omega) (by omega) (fun z => no (by omega)) (fun z2 => ?_))
    have z : hr T n a = 103 ∨ hr T n a = 112 := by omega
    have eW : claW T n a l = sumS T n 6 (a + 1) (clab l (hr T n a)) := by rw [claW, if_pos z]
    rw [eW] at f g
    refine m_readsSum (k := 6) hB5 y2 (by omega) rfl (fun q r e => by cases e) (by omega) (fun e he M' h' => ⟨fun z => absurd rfl z, fun _ => ⟨0, rfl, f e (by rw [he]; rfl) M' (upF M' e ⟨h'.1.two, h'.2⟩)⟩⟩) (fun b l2 he M1 h1 => ⟨fun _ => ?_, fun z => absurd z (by decide)⟩)
    rw [he] at f g
    have hy := y2.2.1
    have gg := (sumS_G 6 (a + 1) _ b l2 hy.1 (by have := hy.2.1; omega) hy.2.2.2.2.1 he).2.2.2.2.2.1
    refine m_clause122 hB5 h1 hc y3 (gg.2.1.trans clab_n.2) (fun j hj => ?_) ?_ ?_ (by omega) (fun e he M' h' => f e he M' (upF M' e h')) (fun e l' he M' h' => g e l' he M' (up M' e l' h'))
    · rw [gg.2.2 3 j (by omega), gg.2.2 4 j (by omega), gg.2.2 5 j (by omega), gg.2.2 6 j (by omega)]; exact y4 j hj
    · rw [gg.2.2 3 _ (by omega), clab_3]; exact y5
    · rw [gg.2.2 4 _ (by omega), clab_4]; exact y6
  have sq : ∀ {c}, c < 256 → sgV T n a = nI c → sgV T n a = nI (hr T n a) ∧ hr T n a = c := fun hc z => by
    have := (sg_eqM hB hc).mp z
    exact ⟨by rw [z, this], this⟩
  refine eX10_readsClause M (bX10_readsClause_0 M ((m_hereX hB h).i ⟨fun z => ?_, fun z1 => ⟨fun z => ?_, fun z2 => ⟨fun z => ?_, fun z3 => ⟨fun z => ?_, fun z4 => ?_⟩⟩⟩⟩))
  · have := sq (c := 110) (by omega) z; exact go39 _ this.1 (by omega)
  · have := sq (c := 103) (by omega) z; exact go39 _ this.1 (by omega)
  · have := sq (c := 120) (by omega) z; exact go39 _ this.1 (by omega)
  · have := sq (c := 112) (by omega) z; exact go39 _ this.1 (by omega)
  · refine m_wrongX h 1 (fun M' h' => ⟨Or.inl rfl, 0, rfl, f _ ?_ M' h'⟩)
    rw [claS, if_neg]
    intro w
    rcases w with w | w | w | w
    · exact z1 ((sg_eqM hB (c := 110) (by omega)).mpr w)
    · exact z2 ((sg_eqM hB (c := 103) (by omega)).mpr w)
    · exact z3 ((sg_eqM hB (c := 120) (by omega)).mpr w)
    · exact z4 ((sg_eqM hB (c := 112) (by omega)).mpr w)
end MC
