/-! the class reads clauses and a whole text -/
def CXr (M : Mem) (l : VD) (c : Nat) : Prop := ∀ j, j < c → M 56 j = nI (l 3 j) ∧ M 57 j = nI (l 4 j) ∧ M 58 j = nI (l 5 j) ∧ M 59 j = nI (l 6 j)
def CTi (r : PR) (M : Mem) : Prop := match r with
  | .inl _ => ∃ c, c ≤ 12 ∧ M 53 0 = nI c
  | .inr q => q.2 0 0 ≤ 12 ∧ M 53 0 = nI (q.2 0 0) ∧ CXr M q.2 (q.2 0 0)
def CTx (n : Nat) (M0 : Mem) (r : PR) (M : Mem) : Prop := (∀ k, (k < 53 ∨ 61 < k) → M k = M0 k) ∧ M 61 2 = M0 61 2 ∧ CRi n r M ∧ CTi r M
section CK
variable {T : Nat → Nat} {n d : Nat} {M0 M M' M5 : Mem} {r : PR}
theorem CRi.cg (h : CRi n r M) (h61 : M' 61 = M 61) (h54 : M' 54 = M 54) (h55 : M' 55 = M 55) (h53 : M' 53 1 = M 53 1) : CRi n r M' := by
  match r, h with
  | .inl e, h =>
    show 0 < e ∧ e < 6000 ∧ M' 61 4 = -(nI e) ∧ (∃ a, a ≤ n ∧ M' 61 3 = nI a) ∧ ∃ z, z ≤ 160 ∧ M' 53 1 = nI z
    rw [h61, h53]; exact h
  | .inr q, h =>
    show q.1 ≤ n ∧ q.2 0 1 ≤ q.1 ∧ LB q.2 ∧ M' 61 4 = 0 ∧ M' 61 3 = nI q.1 ∧ CDr M' q.2
    rw [CDr, h61, h53, h54, h55]; exact h
theorem CRi.lg {b : Nat} {l l' : VD} (h : CRi n (.inr (b, l)) M) (h0 : l' 0 1 = l 0 1) (h1 : l' 1 = l 1) (h2 : l' 2 = l 2) : CRi n (.inr (b, l')) M := by
  show b ≤ n ∧ l' 0 1 ≤ b ∧ LB l' ∧ M 61 4 = 0 ∧ M 61 3 = nI b ∧ CDr M l'
  rw [CDr, LB, h0, h1, h2]; exact h
theorem c_begCond {c : Nat} (h : M 53 0 = nI c) (hc : c < 12) {P : Mem → Prop} (k : P (wr M 58 c (M 53 1))) : AMv d iX2_beginCondition [.ref 53] M P := by
  refine eX2_beginCondition M (bX2_beginCondition_0 (Or.inr (Or.inr rfl)) M ?_)
  rw [h, ix_nI (by omega)]
  exact bq_le 12 c rfl rfl (by omega) (by omega) (fun z => by omega) (fun _ => ⟨vp_in_nI hc (by decide), rfl, k⟩)
theorem c_endCl {c : Nat} (h : M 53 0 = nI c) (hc : c < 12) {P : Mem → Prop} (k : P (wr (wr M 59 c (M 53 1)) 53 0 (nI (c + 1)))) : AMv d iX2_endClause [.ref 53] M P := by
  refine eX2_endClause M (bX2_endClause_0 (Or.inr (Or.inr rfl)) M ?_)
  rw [h, ix_nI (by omega)]
  have e : wr M (53 + 6) c (M 53 1) 53 0 = nI c := by rw [wr_row (by decide)]; exact h
  rw [e, nI_1]
  exact bq_le 12 c rfl rfl (by omega) (by omega) (fun z => by omega) (fun _ => ⟨vp_in_nI hc (by decide), rfl, k⟩)
theorem c_begCl {c : Nat} {x : Int32} (h : M 53 0 = nI c) (hc : c < 12) {P : Mem → Prop} (k : P (wr (wr M 56 c x) 57 c (M 53 1))) : AMv d iX2_beginClause [.ref 53, .int x] M P := by
  refine eX2_beginClause M _ (bX2_beginClause_0 (Or.inr (Or.inr rfl)) M _ ?_)
  rw [h, ix_nI (by omega)]
  have e : wr M (53 + 3) c x 53 = M 53 := wr_row (by decide)
  rw [e, h, ix_nI (by omega)]
  exact bq_le 12 c rfl rfl (by omega) (by omega) (fun z => by omega) (fun _ => ⟨vp_in_nI hc (by decide), vp_in_nI hc (by decide), rfl, k⟩)
theorem c_clause82 (hB : BT T n M5) {R : PR} (h : CR n M5 R M) {c : Nat} (hc : c < 12) (h53 : M5 53 0 = nI c) (hR : ∀ b l2, R = .inr (b, l2) → l2 0 0 = c ∧ CXr M5 l2 c ∧ M5 56 c = nI (l2 3 c) ∧ M5 57 c = nI (l2 4 c)) (hd : 27 ≤ d) : AX3_readClause (d + 1) (fun r M' => r = none ∧ CTx n M5 (claC T n R) M') 82 [lR 61, none] [] M := by
  have hn := hB.1
  have m53 : M 53 0 = nI c := h.1.2.2.trans h53
  refine bX3_readClause_82 M (c_begCond m53 hc ?_)
  have hB7 : BT T n (wr M 58 c (M 53 1)) := ⟨hn, by rw [wr_row (by decide)]; exact h.fin hB, fun j hj => ⟨(hB.2.2 j hj).1, by rw [wr_row (by decide)]; exact h.tape hB hj⟩⟩
  have C7 : CRi n R (wr M 58 c (M 53 1)) := h.2.cg (wr_row (by decide)) (wr_row (by decide)) (wr_row (by decide)) (by rw [wr_row (by decide)])
  have h7 : CR n (wr M 58 c (M 53 1)) (pb R claH) (wr M 58 c (M 53 1)) := by
    refine ⟨CF.rf _, ?_⟩
    match R, C7 with
    | .inl e, C7 => exact C7
    | .inr (b, l2), C7 => exact C7.lg (wrN_ne (by omega)) (funext fun k => wrN_ne (by omega)) (funext fun k => wrN_ne (by omega))
  refine (c_pass hB7 40 (by decide) (by omega) _ _ h7).mono (fun M8 h8 => ?_)
  refine (c_readChoice hB7 5 (fun d hd => c_readPiece hB7 5 d (by omega) hd) (by omega) _ M8 h8).mono (fun M9 h9 => ?_)
  refine (c_pass hB7 41 (by decide) (by omega) _ M9 h9).mono (fun M10 h10 => ?_)
  have e10 : M10 53 0 = nI c := by rw [h10.1.2.2, wr_row (by decide)]; exact m53
  refine c_endCl e10 hc ⟨rfl, ?_⟩
  have fr : ∀ k, (k < 53 ∨ 61 < k ∨ (55 < k ∧ k < 61 ∧ k ≠ 58)) → M10 k = M5 k := fun k hk => by
    rw [h10.1.1 k (by omega) (by omega) (by omega) (by omega), wr_row (by omega), h.1.1 k (by omega) (by omega) (by omega) (by omega)]
  have fr58 : ∀ j, j ≠ c → M10 58 j = M5 58 j := fun j hj => by
    rw [h10.1.1 58 (by omega) (by omega) (by omega) (by omega), wr_el hj, h.1.1 58 (by omega) (by omega) (by omega) (by omega)]
  have f58 : M10 58 c = M 53 1 := by rw [h10.1.1 58 (by omega) (by omega) (by omega) (by omega), wr_same]
  have i10 := h10.2.cg (M' := wr (wr M10 59 c (M10 53 1)) 53 0 (nI (c + 1))) (by rw [wr_row (by decide), wr_row (by decide)]) (by rw [wr_row (by decide), wr_row (by decide)]) (by rw [wr_row (by decide), wr_row (by decide)]) (by rw [wr_el (by decide), wr_row (by decide)])
  have F : (∀ k, (k < 53 ∨ 61 < k) → wr (wr M10 59 c (M10 53 1)) 53 0 (nI (c + 1)) k = M5 k) ∧ wr (wr M10 59 c (M10 53 1)) 53 0 (nI (c + 1)) 61 2 = M5 61 2 := by
    refine ⟨fun k hk => by rw [wr_row (by omega), wr_row (by omega)]; exact fr k (by omega), ?_⟩
    rw [wr_row (by decide), wr_row (by decide), h10.1.2.1, wr_row (by decide)]; exact h.1.2.1
  show CTx n M5 (pb (claD T n R) claE) _
  have hD : pb (pb (pb (pb R claH) (clo T n 40)) (choOf T n (pieS T n 5))) (clo T n 41) = claD T n R := rfl
  rw [hD] at i10 h10
  generalize hR8 : claD T n R = R8 at i10 h10
  match R8, i10, h10, hR8 with
  | .inl e, i10, h10, hR8 => exact ⟨F.1, F.2, i10, c + 1, hc, wr_same _ _ _ _⟩
  | .inr (e, l4), i10, h10, hR8 =>
    obtain ⟨b, l2, rfl, k1, k2, k3, k4, k5, k6, k7⟩ := claD_ok hn hR8 (fun b l2 e => by subst e; exact h.le)
    obtain ⟨q1, q2, q3, q4⟩ := hR b l2 rfl
    subst q1
    have m1 : M 53 1 = nI (l2 0 1) := h.2.2.2.2.2.2.1
    have n4 : l4 0 0 = l2 0 0 := k6.2.1.trans (wrN_ne (by omega))
    have m4 : M10 53 1 = nI (l4 0 1) := h10.2.2.2.2.2.2.1
    have L : ∀ r j, 3 ≤ r → r ≠ 5 → l4 r j = l2 r j := fun r j h1 h2 => (k6.2.2 r j h1).trans (wrN_ne (by omega))
    have L5 : ∀ j, j ≠ l2 0 0 → l4 5 j = l2 5 j := fun j h1 => (k6.2.2 5 j (by omega)).trans (wrN_ne (by omega))
    have L5c : l4 5 (l2 0 0) = l2 0 1 := (k6.2.2 5 _ (by omega)).trans (wrN_same _ _ _ _)
    refine ⟨F.1, F.2, i10.lg (by rw [wrN_ne (by omega), wrN_ne (by omega)]) (funext fun k => by rw [wrN_ne (by omega), wrN_ne (by omega)]) (funext fun k => by rw [wrN_ne (by omega), wrN_ne (by omega)]), ?_⟩
    show wrN (wrN l4 6 (l4 0 0) (l4 0 1)) 0 0 (l4 0 0 + 1) 0 0 ≤ 12 ∧ _ = nI (wrN (wrN l4 6 (l4 0 0) (l4 0 1)) 0 0 (l4 0 0 + 1) 0 0) ∧ CXr _ (wrN (wrN l4 6 (l4 0 0) (l4 0 1)) 0 0 (l4 0 0 + 1)) (wrN (wrN l4 6 (l4 0 0) (l4 0 1)) 0 0 (l4 0 0 + 1) 0 0)
    rw [wrN_same, n4]
    refine ⟨hc, wr_same _ _ _ _, fun j hj => ?_⟩
    rw [wr_row (show (56 : Nat) ≠ 53 by decide), wr_row (show (57 : Nat) ≠ 53 by decide), wr_row (show (58 : Nat) ≠ 53 by decide), wr_row (show (59 : Nat) ≠ 53 by decide), wr_row (show (56 : Nat) ≠ 59 by decide), wr_row (show (57 : Nat) ≠ 59 by decide), wr_row (show (58 : Nat) ≠ 59 by decide), fr 56 (by omega), fr 57 (by omega)]
    rw [wrN_ne (show ¬ (3 = 0 ∧ j = 0) by omega), wrN_ne (show ¬ (4 = 0 ∧ j = 0) by omega), wrN_ne (show ¬ (5 = 0 ∧ j = 0) by omega), wrN_ne (show ¬ (6 = 0 ∧ j = 0) by omega), wrN_ne (show ¬ (3 = 6 ∧ j = l2 0 0) by omega), wrN_ne (show ¬ (4 = 6 ∧ j = l2 0 0) by omega), wrN_ne (show ¬ (5 = 6 ∧ j = l2 0 0) by omega), L 3 j (by omega) (by omega), L 4 j (by omega) (by omega)]
    by_cases z : j = l2 0 0
    · subst z
      rw [f58, L5c, wr_same, wrN_same, m1, m4]
      exact ⟨q3, q4, rfl, rfl⟩
    · obtain ⟨v1, v2, v3, v4⟩ := q2 j (by omega)
      rw [fr58 j z, L5 j z, wr_el z, wrN_ne (fun w => z w.2), fr 59 (by omega), L 6 j (by omega) (by omega)]
      exact ⟨v1, v2, v3, v4⟩
theorem c_readClause (hB : BT T n M0) (h : CTx n M0 r M) (hd : 28 ≤ d) : AMv d iX3_readClause [.ref 61] M (fun M' => CTx n M0 (pb r (claS T n)) M') := by
  obtain ⟨d, rfl⟩ : ∃ d', d = d' + 1 := ⟨d - 1, by omega⟩
  have hn := hB.1
  have hBM : BT T n M := ⟨hn, h.2.1.trans hB.2.1, fun j hj => ⟨(hB.2.2 j hj).1, by rw [h.1 35 (by omega)]; exact (hB.2.2 j hj).2⟩⟩
  have hC : CR n M r M := ⟨CF.rf _, h.2.2.1⟩
  refine eX3_readClause M (bX3_readClause_0 M ?_)
  match r, h, hC with
  | .inl e, h, hC => exact ⟨fun z => absurd z hC.fe, fun _ => ⟨rfl, h⟩⟩
  | .inr (a, l), h, hC =>
    obtain ⟨f1, f2, hi, t1, t2, t3⟩ := h
    have t1 : l 0 0 ≤ 12 := t1
    have t2 : M 53 0 = nI (l 0 0) := t2
    have se := st_eq _ (hr_le hBM a)
    have hla := hC.le
    have bad : ∀ w, 1 ≤ w → w ≤ 5 → claS T n a l = .inl (1000 * w + a) → AMv d iX3_fail [.ref 61, .int (nI w)] M (fun M7 => (none : Option Int32) = none ∧ CTx n M0 (claS T n a l) M7) := fun w w1 w2 e => c_fail hn hC w w1 w2 (fun M' h' => ⟨rfl, by
      rw [e]
      refine ⟨fun k hk => (h'.1.1 k (by omega) (by omega) (by omega) (by omega)).trans (f1 k hk), h'.1.2.1.trans f2, h'.2, l 0 0, t1, h'.1.2.2.trans t2⟩⟩)
    refine ⟨fun _ => (c_isNext hBM hC 0 (by decide) (by omega)).i (nx_r (fun q => ?_) (fun q => ?_)).symm, fun z => absurd hC.f0 z⟩
    · rw [se.2.2.2.2.2.2.2.2.2.2.1] at q
      exact bad 1 (by omega) (by omega) (by rw [claS, if_neg (of_decide_eq_false q)])
    · rw [se.2.2.2.2.2.2.2.2.2.2.1] at q
      have q := of_decide_eq_true q
      have ha := hr_lt (T := T) (n := n) (a := a) (by omega)
      rw [t2]
      refine bq_lt _ 12 rfl rfl (by omega) (by omega) (fun hc => ?_) (fun hc => bad 4 (by omega) (by omega) (by rw [claS, if_pos q, if_pos hc]))
      have E : pb (.inr (a, l)) (claS T n) = claC T n (claW T n a l) := claS_eq T n a l q (by omega)
      rw [E]
      have eb : ∀ M5, M5 = wr (wr (wr M 56 (l 0 0) (nI (hr T n a))) 57 (l 0 0) (M 53 1)) 61 3 (wr (wr M 56 (l 0 0) (nI (hr T n a))) 57 (l 0 0) (M 53 1) 61 3 + 1) → BT T n M5 ∧ CR n M5 (.inr (a + 1, clab l (hr T n a))) M5 ∧ M5 53 0 = nI (l 0 0) ∧ CXr M5 (clab l (hr T n a)) (l 0 0) ∧ M5 56 (l 0 0) = nI (hr T n a) ∧ M5 57 (l 0 0) = nI (l 0 1) ∧ (∀ k, (k < 53 ∨ 61 < k) → M5 k = M0 k) ∧ M5 61 2 = M0 61 2 := by
        rintro M5 rfl
        have m1 : M 53 1 = nI (l 0 1) := hi.2.2.2.2.2.1
        have e61 : wr (wr M 56 (l 0 0) (nI (hr T n a))) 57 (l 0 0) (M 53 1) 61 = M 61 := by rw [wr_row (by decide), wr_row (by decide)]
        have x0 : CRi n (.inr (a, l)) (wr (wr M 56 (l 0 0) (nI (hr T n a))) 57 (l 0 0) (M 53 1)) := hi.cg e61 (by rw [wr_row (by decide), wr_row (by decide)]) (by rw [wr_row (by decide), wr_row (by decide)]) (by rw [wr_row (by decide), wr_row (by decide)])
        have x1 := (CR.step (M0 := wr (wr M 56 (l 0 0) (nI (hr T n a))) 57 (l 0 0) (M 53 1)) ⟨CF.rf _, x0⟩ ha).2
        refine ⟨⟨hn, ?_, fun j hj => ⟨(hB.2.2 j hj).1, ?_⟩⟩, ⟨CF.rf _, x1.lg clab_n.1 (funext fun k => clab_o (by omega)) (funext fun k => clab_o (by omega))⟩, ?_, fun j hj => ?_, ?_, ?_, fun k hk => ?_, ?_⟩
        · rw [wr_el (by decide), e61]; exact hBM.2.1
        · rw [wr_row (by decide), wr_row (by decide), wr_row (by decide)]; exact (hBM.2.2 j hj).2
        · rw [wr_row (by decide), wr_row (by decide), wr_row (by decide)]; exact t2
        · rw [clab_o (by omega), clab_o (by omega), clab_o (by omega), clab_o (by omega)]
          rw [wr_row (show (56 : Nat) ≠ 61 by decide), wr_row (show (57 : Nat) ≠ 61 by decide), wr_row (show (58 : Nat) ≠ 61 by decide), wr_row (show (59 : Nat) ≠ 61 by decide), wr_row (show (56 : Nat) ≠ 57 by decide), wr_row (show (58 : Nat) ≠ 57 by decide), wr_row (show (59 : Nat) ≠ 57 by decide), wr_row (show (58 : Nat) ≠ 56 by decide), wr_row (show (59 : Nat) ≠ 56 by decide), wr_el (show j ≠ l 0 0 by omega), wr_el (show j ≠ l 0 0 by omega), wr_row (show (57 : Nat) ≠ 56 by decide)]
          exact t3 j hj
        · rw [wr_row (by decide), wr_row (by decide), wr_same]
        · rw [wr_row (by decide), wr_same]; exact m1
        · rw [wr_row (by omega), wr_row (by omega), wr_row (by omega)]; exact f1 k hk
        · rw [wr_el (by decide), e61]; exact f2
      have up : ∀ M5 M' R, (∀ k, (k < 53 ∨ 61 < k) → M5 k = M0 k) → M5 61 2 = M0 61 2 → CTx n M5 R M' → CTx n M0 R M' := fun M5 M' R u1 u2 u => ⟨fun k hk => (u.1 k hk).trans (u1 k hk), u.2.1.trans u2, u.2.2⟩
      refine (c_isNext hBM hC 1 (by decide) (by omega)).i ((c_sign hBM hC).i ?_)
      rw [sg_hr hBM ha]
      refine c_begCl t2 hc (nx_r (fun q2 => ?_) (fun q2 => ?_))
      · rw [se.2.2.2.2.2.2.2.2.2.2.2] at q2
        obtain ⟨y1, y2, y3, y4, y5, y6, y7, y8⟩ := eb _ rfl
        generalize wr (wr (wr M 56 (l 0 0) (nI (hr T n a))) 57 (l 0 0) (M 53 1)) 61 3 (wr (wr M 56 (l 0 0) (nI (hr T n a))) 57 (l 0 0) (M 53 1) 61 3 + 1) = M5 at y1 y2 y3 y4 y5 y6 y7 y8
        have eW : claW T n a l = .inr (a + 1, clab l (hr T n a)) := by rw [claW, if_neg (of_decide_eq_false q2)]
        rw [eW]
        have := c_clause82 (d := d) y1 y2 hc y3 (fun b l2 e => by cases e; exact ⟨clab_n.2, y4, by rw [clab_3]; exact y5, by rw [clab_4]; exact y6⟩) (by omega)
        have ee : (fun r M' => r = none ∧ CTx n M5 (claC T n (.inr (a + 1, clab l (hr T n a)))) M' : Option Int32 → Mem → Prop) = (fun r M' => r = none ∧ CTx n M0 (claC T n (.inr (a + 1, clab l (hr T n a)))) M') := by
          funext r M'
          exact propext ⟨fun z => ⟨z.1, up _ _ _ y7 y8 z.2⟩, fun z => ⟨z.1, fun k hk => (z.2.1 k hk).trans (y7 k hk).symm, z.2.2.1.trans y8.symm, z.2.2.2⟩⟩
        rw [ee] at this
        exact this
      · rw [se.2.2.2.2.2.2.2.2.2.2.2] at q2
        obtain ⟨y1, y2, y3, y4, y5, y6, y7, y8⟩ := eb _ rfl
        generalize wr (wr (wr M 56 (l 0 0) (nI (hr T n a))) 57 (l 0 0) (M 53 1)) 61 3 (wr (wr M 56 (l 0 0) (nI (hr T n a))) 57 (l 0 0) (M 53 1) 61 3 + 1) = M5 at y1 y2 y3 y4 y5 y6 y7 y8
        have eW : claW T n a l = sumS T n 6 (a + 1) (clab l (hr T n a)) := by rw [claW, if_pos (of_decide_eq_true q2)]
        rw [eW]
        refine (c_readSum y1 6 d (by omega) (by omega) _ M5 y2).mono (fun M6 h6 => ?_)
        have hy := y2.le
        have := c_clause82 (d := d) y1 h6 hc y3 (fun b l2 e => by
          have g := (sumS_G 6 (a + 1) _ b l2 hy.1 hy.2.1 hy.2.2 e).2.2.2.2.2.1
          refine ⟨g.2.1.trans clab_n.2, fun j hj => ?_, ?_, ?_⟩
          · rw [g.2.2 3 j (by omega), g.2.2 4 j (by omega), g.2.2 5 j (by omega), g.2.2 6 j (by omega)]; exact y4 j hj
          · rw [g.2.2 3 _ (by omega), clab_3]; exact y5
          · rw [g.2.2 4 _ (by omega), clab_4]; exact y6) (by omega)
        have ee : ∀ R : PR, (fun r M' => r = none ∧ CTx n M5 R M' : Option Int32 → Mem → Prop) = (fun r M' => r = none ∧ CTx n M0 R M') := fun R => by
          funext r M'
          exact propext ⟨fun z => ⟨z.1, up _ _ _ y7 y8 z.2⟩, fun z => ⟨z.1, fun k hk => (z.2.1 k hk).trans (y7 k hk).symm, z.2.2.1.trans y8.symm, z.2.2.2⟩⟩
        rw [ee] at this
        exact this
end CK
