/-! the class reads: conditions -/
section CC
variable {T : Nat → Nat} {n d : Nat} {M0 M : Mem} {r : PR}
theorem c_readComparison (hB : BT T n M0) (k : Nat) (hk : k ≤ 6) (hd : 3 * k + 9 ≤ d) : CM n M0 d iX3_readComparison [.ref 61, .int (nI (6 - k))] (cmpS T n k) := by
  obtain ⟨d, rfl⟩ : ∃ d', d = d' + 1 := ⟨d - 1, by omega⟩
  have hn := hB.1
  intro r M h
  have E : pb r (cmpS T n k) = pb (pb r (sumS T n k)) (fun b l' => if hr T n b = 60 ∨ hr T n b = 62 ∨ hr T n b = 61 then pb (sumS T n k (b + 1) l') (fun c l2 => .inr (c, emit l2 (hr T n b) 0)) else .inl (1000 + b)) := by rw [pb_pb]; rfl
  rw [E]
  refine eX3_readComparison M _ (bX3_readComparison_0 M _ ((c_readSum hB k d hk (by omega) r M h).mono (fun M1 h1 => ?_)))
  generalize pb r (sumS T n k) = r1 at h1
  match r1, h1 with
  | .inl e, h1 =>
    refine (c_signF hB h1).mono (fun x M2 hM => ?_)
    subst hM
    exact ⟨fun _ => bX3_readComparison_31 M2 _ _ ⟨fun _ => ⟨rfl, h1⟩, fun z => absurd z h1.fe⟩, fun z => absurd z h1.fe⟩
  | .inr (b, l), h1 =>
    have se := (st_eq _ (hr_le hB b)).2.2.2.2.2.2.2.1
    have hla := h1.le
    refine (c_sign hB h1).i ⟨fun z => absurd h1.f0 z, fun _ => (c_isNext hB h1 9 (by decide) (by omega)).i (nx_r (fun q => ?_) (fun q => ?_)).symm⟩
    · rw [se] at q
      refine c_fail hn h1 1 (by decide) (by decide) (fun M' h' => bX3_readComparison_31 M' _ _ ⟨fun _ => ⟨rfl, ?_⟩, fun z => absurd z h'.fe⟩)
      show CR n M0 (if hr T n b = 60 ∨ hr T n b = 62 ∨ hr T n b = 61 then _ else _) M'
      rw [if_neg (of_decide_eq_false q)]
      exact h'
    · rw [se] at q
      have q := of_decide_eq_true q
      have hb := hr_lt (T := T) (n := n) (a := b) (by omega)
      refine bX3_readComparison_31 M1 _ _ ⟨fun z => absurd h1.f0 z, fun _ => ?_⟩
      rw [sg_hr hB hb]
      refine (c_readSum hB k d hk (by omega) _ _ (h1.step hb)).mono (fun M3 h3 => c_addSign h3 hn (v := 0) (fun c l' e => ?_) (by decide) (fun p M4 _ _ h4 => ⟨rfl, ?_⟩))
      · have g := sumS_G k (b + 1) l c l' (by omega) (by omega) hla.2.2 e
        omega
      · show CR n M0 (if hr T n b = 60 ∨ hr T n b = 62 ∨ hr T n b = 61 then _ else _) M4
        rw [if_pos q]
        exact h4
theorem c_readPart (hB : BT T n M0) {F h0 : Nat} {x1 : Int32} {pc : Nat → VD → PR} (hF : 4 ≤ F) (hpc : ∀ d, F ≤ d → CM n M0 d iX3_readPiece [.ref 61, .int x1] pc) (hG : GP n pc h0 true) (hd : F + 1 ≤ d) : CM n M0 d iX3_readPart [.ref 61, .int x1] (partOf T n pc) := by
  obtain ⟨d, rfl⟩ : ∃ d', d = d' + 1 := ⟨d - 1, by omega⟩
  have hn := hB.1
  have key : ∀ k i r M, CR n M0 r M → k + i = 161 → (∀ a l, r = .inr (a, l) → i < a) → AX3_readPart (d + 1) (fun r' M' => r' = none ∧ CR n M0 (pb r (lpsS T n 38 pc k)) M') 7 [lR 61, lI x1, lI (nI i), none] [] M := by
    intro k
    induction k with
    | zero =>
      intro i r M h hk hi
      match r, h, hi with
      | .inl e, h, hi => exact bX3_readPart_7 M _ _ ⟨fun _ => ⟨rfl, h⟩, fun _ => (c_isNext hB h 10 (by decide) (by omega)).i (nx_l ⟨rfl, h⟩)⟩
      | .inr (a, l), h, hi => have := hi a l rfl; have := h.le; omega
    | succ k ih =>
      intro i r M h hk hi
      match r, h, hi with
      | .inl e, h, hi => exact bX3_readPart_7 M _ _ ⟨fun _ => ⟨rfl, h⟩, fun _ => (c_isNext hB h 10 (by decide) (by omega)).i (nx_l ⟨rfl, h⟩)⟩
      | .inr (a, l), h, hi =>
        have hi := hi a l rfl
        have hla := h.le
        have se := (st_eq _ (hr_le hB a)).2.2.2.2.2.2.2.2.1
        refine bX3_readPart_7 M _ _ (bq_le 160 i rfl rfl (by omega) (by omega) (fun z => by omega) (fun _ => (c_isNext hB h 10 (by decide) (by omega)).i (nx_r (fun q => ⟨rfl, ?_⟩) (fun q => ?_))))
        · rw [se] at q
          show CR n M0 (lpsS T n 38 pc (k + 1) a l) M
          rw [lpsS, if_neg (of_decide_eq_false q)]; exact h
        · rw [se] at q
          have q := of_decide_eq_true q
          have ha := hr_lt (T := T) (n := n) (a := a) (by omega)
          have E : pb (.inr (a, l)) (lpsS T n 38 pc (k + 1)) = pb (pb (pc (a + 1) (emit l 38 0)) (fun b l' => .inr (b, patch l' (l 0 1)))) (lpsS T n 38 pc k) := by
            show lpsS T n 38 pc (k + 1) a l = _
            rw [lpsS, if_pos q, pb_pb]; rfl
          rw [E, nI_1 i]
          have gp : ∀ b l', pc (a + 1) (emit l 38 0) = .inr (b, l') → a + 1 < b ∧ l 0 1 < l' 0 1 := fun b l' e => by
            have g := hG (a + 1) (emit l 38 0) b l' (by omega) (by rw [em_n]; omega) (hla.2.2.em (by omega)) e
            rw [em_n] at g
            exact ⟨g.1, by omega⟩
          refine c_addSign (h.step ha) hn (v := 0) (fun b l' e => by cases e; omega) (by decide) (fun p M4 _ hp h4 => ?_)
          have hp := hp _ _ rfl
          subst hp
          refine (hpc d (by omega) _ _ h4).mono (fun M5 h5 => c_leap h5 hn (by omega) (fun b l' e => (gp b l' e).2) (fun M6 h6 => ?_))
          refine ih (i + 1) _ M6 h6 (by omega) (fun b l' e => ?_)
          obtain ⟨c, l2, e1, e2⟩ := pb_inr e
          cases e2
          have := (gp _ _ e1).1
          omega
  intro r M h
  refine eX3_readPart M _ (bX3_readPart_0 M _ ((hpc d (by omega) r M h).mono (fun M1 h1 => ?_)))
  have := key 161 0 (pb r pc) M1 h1 rfl (fun a l e => by
    obtain ⟨c, l2, e1, e2⟩ := pb_inr e
    subst e1
    have := h.le
    have := (hG c l2 a l this.1 this.2.1 this.2.2 e2).1
    omega)
  rw [pb_pb] at this
  exact this
theorem c_readChoiceOf (hB : BT T n M0) {F h0 : Nat} {x1 : Int32} {pc : Nat → VD → PR} (hF : 4 ≤ F) (hpc : ∀ d, F ≤ d → CM n M0 d iX3_readPart [.ref 61, .int x1] (partOf T n pc)) (hG : GP n (partOf T n pc) h0 true) (hd : F + 1 ≤ d) : CM n M0 d iX3_readChoice [.ref 61, .int x1] (choOf T n pc) := by
  obtain ⟨d, rfl⟩ : ∃ d', d = d' + 1 := ⟨d - 1, by omega⟩
  have hn := hB.1
  have key : ∀ k i r M, CR n M0 r M → k + i = 161 → (∀ a l, r = .inr (a, l) → i < a) → AX3_readChoice (d + 1) (fun r' M' => r' = none ∧ CR n M0 (pb r (lpsS T n 124 (partOf T n pc) k)) M') 7 [lR 61, lI x1, lI (nI i), none] [] M := by
    intro k
    induction k with
    | zero =>
      intro i r M h hk hi
      match r, h, hi with
      | .inl e, h, hi => exact bX3_readChoice_7 M _ _ ⟨fun _ => ⟨rfl, h⟩, fun _ => (c_isNext hB h 11 (by decide) (by omega)).i (nx_l ⟨rfl, h⟩)⟩
      | .inr (a, l), h, hi => have := hi a l rfl; have := h.le; omega
    | succ k ih =>
      intro i r M h hk hi
      match r, h, hi with
      | .inl e, h, hi => exact bX3_readChoice_7 M _ _ ⟨fun _ => ⟨rfl, h⟩, fun _ => (c_isNext hB h 11 (by decide) (by omega)).i (nx_l ⟨rfl, h⟩)⟩
      | .inr (a, l), h, hi =>
        have hi := hi a l rfl
        have hla := h.le
        have se := (st_eq _ (hr_le hB a)).2.2.2.2.2.2.2.2.2.1
        refine bX3_readChoice_7 M _ _ (bq_le 160 i rfl rfl (by omega) (by omega) (fun z => by omega) (fun _ => (c_isNext hB h 11 (by decide) (by omega)).i (nx_r (fun q => ⟨rfl, ?_⟩) (fun q => ?_))))
        · rw [se] at q
          show CR n M0 (lpsS T n 124 (partOf T n pc) (k + 1) a l) M
          rw [lpsS, if_neg (of_decide_eq_false q)]; exact h
        · rw [se] at q
          have q := of_decide_eq_true q
          have ha := hr_lt (T := T) (n := n) (a := a) (by omega)
          have E : pb (.inr (a, l)) (lpsS T n 124 (partOf T n pc) (k + 1)) = pb (pb (partOf T n pc (a + 1) (emit l 124 0)) (fun b l' => .inr (b, patch l' (l 0 1)))) (lpsS T n 124 (partOf T n pc) k) := by
            show lpsS T n 124 (partOf T n pc) (k + 1) a l = _
            rw [lpsS, if_pos q, pb_pb]; rfl
          rw [E, nI_1 i]
          have gp : ∀ b l', partOf T n pc (a + 1) (emit l 124 0) = .inr (b, l') → a + 1 < b ∧ l 0 1 < l' 0 1 := fun b l' e => by
            have g := hG (a + 1) (emit l 124 0) b l' (by omega) (by rw [em_n]; omega) (hla.2.2.em (by omega)) e
            rw [em_n] at g
            exact ⟨g.1, by omega⟩
          refine c_addSign (h.step ha) hn (v := 0) (fun b l' e => by cases e; omega) (by decide) (fun p M4 _ hp h4 => ?_)
          have hp := hp _ _ rfl
          subst hp
          refine (hpc d (by omega) _ _ h4).mono (fun M5 h5 => c_leap h5 hn (by omega) (fun b l' e => (gp b l' e).2) (fun M6 h6 => ?_))
          refine ih (i + 1) _ M6 h6 (by omega) (fun b l' e => ?_)
          obtain ⟨c, l2, e1, e2⟩ := pb_inr e
          cases e2
          have := (gp _ _ e1).1
          omega
  intro r M h
  refine eX3_readChoice M _ (bX3_readChoice_0 M _ ((hpc d (by omega) r M h).mono (fun M1 h1 => ?_)))
  have := key 161 0 (pb r (partOf T n pc)) M1 h1 rfl (fun a l e => by
    obtain ⟨c, l2, e1, e2⟩ := pb_inr e
    subst e1
    have := h.le
    have := (hG c l2 a l this.1 this.2.1 this.2.2 e2).1
    omega)
  rw [pb_pb] at this
  exact this
theorem c_readChoice (hB : BT T n M0) (k : Nat) (hp : ∀ d, 3 * k + 10 ≤ d → CM n M0 d iX3_readPiece [.ref 61, .int (nI (6 - k))] (pieS T n k)) (hd : 3 * k + 12 ≤ d) : CM n M0 d iX3_readChoice [.ref 61, .int (nI (6 - k))] (choOf T n (pieS T n k)) :=
  c_readChoiceOf hB (F := 3 * k + 11) (by omega) (fun d hd => c_readPart hB (F := 3 * k + 10) (by omega) hp (pieS_G hB.1 k) (by omega)) (partOf_G hB.1 (by omega) (pieS_G hB.1 k)) (by omega)
theorem c_readPiece (hB : BT T n M0) : ∀ k d, k ≤ 6 → 3 * k + 10 ≤ d → CM n M0 d iX3_readPiece [.ref 61, .int (nI (6 - k))] (pieS T n k) := by
  intro k
  induction k with
  | zero =>
    intro d hk hd
    obtain ⟨d, rfl⟩ : ∃ d', d = d' + 1 := ⟨d - 1, by omega⟩
    intro r M h
    refine eX3_readPiece M _ (bX3_readPiece_0 M _ ?_)
    match r, h with
    | .inl e, h => exact ⟨fun z => absurd z h.fe, fun _ => ⟨rfl, h⟩⟩
    | .inr (a, l), h =>
      have se := st_eq _ (hr_le hB a)
      refine ⟨fun _ => (c_isNext hB h 7 (by decide) (by omega)).i (nx_r (fun q => (c_isNext hB h 8 (by decide) (by omega)).i (nx_r (fun q3 => ?_) (fun q3 => ?_))) (fun q => ?_)), fun z => absurd h.f0 z⟩
      · rw [se.2.2.2.2.2.1] at q; rw [se.2.2.2.2.2.2.1] at q3
        refine (c_readComparison hB 0 hk (by omega) _ M h).mono (fun M' h' => ⟨rfl, ?_⟩)
        show CR n M0 (pieS T n 0 a l) M'
        rw [pieS, if_neg (fun z => z.elim (of_decide_eq_false q) (of_decide_eq_false q3))]
        exact h'
      · rw [se.2.2.2.2.2.2.1] at q3
        have q3 := of_decide_eq_true q3
        have ha := hr_lt (T := T) (n := n) (a := a) (by omega)
        refine c_opens hB h ha 0 hk (by omega) (fun _ M' h' => ⟨fun _ => ⟨rfl, ?_⟩, fun z => absurd z h'.fe⟩) (fun z => by omega)
        show CR n M0 (pieS T n 0 a l) M'
        rw [pieS, if_pos (Or.inr q3)]
        exact h'
      · rw [se.2.2.2.2.2.1] at q
        have q := of_decide_eq_true q
        have ha := hr_lt (T := T) (n := n) (a := a) (by omega)
        refine c_opens hB h ha 0 hk (by omega) (fun _ M' h' => ⟨fun _ => ⟨rfl, ?_⟩, fun z => absurd z h'.fe⟩) (fun z => by omega)
        show CR n M0 (pieS T n 0 a l) M'
        rw [pieS, if_pos (Or.inl q)]
        exact h'
  | succ k ih =>
    intro d hk hd
    obtain ⟨d, rfl⟩ : ∃ d', d = d' + 1 := ⟨d - 1, by omega⟩
    have e6 : nI (6 - (k + 1)) + 1 = nI (6 - k) := by rw [nI_1]; congr 1; omega
    intro r M h
    refine eX3_readPiece M _ (bX3_readPiece_0 M _ ?_)
    match r, h with
    | .inl e, h => exact ⟨fun z => absurd z h.fe, fun _ => ⟨rfl, h⟩⟩
    | .inr (a, l), h =>
      have se := st_eq _ (hr_le hB a)
      have hla := h.le
      rw [e6]
      refine ⟨fun _ => (c_isNext hB h 7 (by decide) (by omega)).i (nx_r (fun q => (c_isNext hB h 8 (by decide) (by omega)).i (nx_r (fun q3 => ?_) (fun q3 => ?_))) (fun q => ?_)), fun z => absurd h.f0 z⟩
      · rw [se.2.2.2.2.2.1] at q; rw [se.2.2.2.2.2.2.1] at q3
        refine (c_readComparison hB (k + 1) hk (by omega) _ M h).mono (fun M' h' => ⟨rfl, ?_⟩)
        show CR n M0 (pieS T n (k + 1) a l) M'
        rw [pieS, if_neg (of_decide_eq_false q), if_neg (of_decide_eq_false q3)]
        exact h'
      · rw [se.2.2.2.2.2.1] at q; rw [se.2.2.2.2.2.2.1] at q3
        have q3 := of_decide_eq_true q3
        have ha := hr_lt (T := T) (n := n) (a := a) (by omega)
        refine c_opens hB h ha (k + 1) hk (by omega) (fun z => by omega) (fun _ M' h' => ⟨fun z => absurd h'.f0 z, fun _ => ?_⟩)
        refine (c_readChoice hB k (fun d hd => ih d (by omega) hd) (by omega) _ M' h').mono (fun M2 h2 => (c_pass hB 41 (by decide) (by omega) _ M2 h2).mono (fun M3 h3 => ⟨rfl, ?_⟩))
        show CR n M0 (pieS T n (k + 1) a l) M3
        rw [pieS, if_neg (of_decide_eq_false q), if_pos q3]
        exact h3
      · rw [se.2.2.2.2.2.1] at q
        have q := of_decide_eq_true q
        have ha := hr_lt (T := T) (n := n) (a := a) (by omega)
        refine c_opens hB h ha (k + 1) hk (by omega) (fun z => by omega) (fun _ M' h' => ⟨fun z => absurd h'.f0 z, fun _ => ?_⟩)
        refine (ih d (by omega) (by omega) _ M' h').mono (fun M2 h2 => c_addSign h2 hB.1 (g := 33) (v := 0) (fun b l' e => ?_) (by decide) (fun p M3 _ _ h3 => ⟨rfl, ?_⟩))
        · have g := pieS_G hB.1 k (a + 1) l b l' (by omega) (by omega) hla.2.2 e
          omega
        · show CR n M0 (pieS T n (k + 1) a l) M3
          rw [pieS, if_pos q]
          exact h3
end CC
