/-! the class reads: sums and conditions -/
theorem pb_pb (r : PR) (f g : Nat → VD → PR) : pb (pb r f) g = pb r (fun a l => pb (f a l) g) := by
  match r with
  | .inl e => rfl
  | .inr q => rfl
def numP (l : VD) (r : Nat ⊕ (Nat × Nat)) : PR := match r with
  | .inl e => .inl e
  | .inr q => .inr (q.1, emit l 48 q.2)
section FK
variable {T : Nat → Nat} {n k a : Nat} {l : VD}
theorem facK_0 (h : hr T n a = 91) : facK T n 0 a l = .inl (5000 + a) := by show facS T n 0 (fun a l => .inr (a, l)) a l = _; rw [facS, if_pos h, if_pos rfl]
theorem facK_s (h : hr T n a = 91) : facK T n (k + 1) a l = pb (sumS T n k (a + 1) l) (clo T n 93) := by show facS T n (k + 1) _ a l = _; rw [facS, if_pos h, if_neg (by omega)]
theorem facK_n (h : ¬ hr T n a = 91) (hd : dgN (hr T n a) = true) : facK T n k a l = numP l (numS T n 5 a 0) := by
  cases k with
  | zero => show facS T n 0 (fun a l => .inr (a, l)) a l = _; rw [facS, if_neg h, if_pos hd]; rfl
  | succ k => show facS T n (k + 1) _ a l = _; rw [facS, if_neg h, if_pos hd]; rfl
theorem facK_l (h : ¬ hr T n a = 91) (hd : dgN (hr T n a) = false) (hl : letN (hr T n a) < 12) : facK T n k a l = .inr (a + 1, emit l 97 (letN (hr T n a))) := by
  cases k with
  | zero => show facS T n 0 (fun a l => .inr (a, l)) a l = _; rw [facS, if_neg h, if_neg (by rw [hd]; decide), if_pos hl]
  | succ k => show facS T n (k + 1) _ a l = _; rw [facS, if_neg h, if_neg (by rw [hd]; decide), if_pos hl]
theorem facK_e (h : ¬ hr T n a = 91) (hd : dgN (hr T n a) = false) (hl : ¬ letN (hr T n a) < 12) : facK T n k a l = .inl (1000 + a) := by
  cases k with
  | zero => show facS T n 0 (fun a l => .inr (a, l)) a l = _; rw [facS, if_neg h, if_neg (by rw [hd]; decide), if_neg hl]
  | succ k => show facS T n (k + 1) _ a l = _; rw [facS, if_neg h, if_neg (by rw [hd]; decide), if_neg hl]
end FK
section CS
variable {T : Nat → Nat} {n d : Nat} {M0 M : Mem} {r : PR}
theorem c_readNumber (hB : BT T n M0) {a : Nat} {l : VD} (h : CR n M0 (.inr (a, l)) M) (hg : dgN (hr T n a) = true) (hd : 5 ≤ d) : AMv d iX3_readNumber [.ref 61] M (fun M' => CR n M0 (numP l (numS T n 5 a 0)) M') := by
  obtain ⟨d, rfl⟩ : ∃ d', d = d' + 1 := ⟨d - 1, by omega⟩
  have hn := hB.1
  have hla := h.le
  have st3 : ∀ b, sgN 3 (hr T n b) = dgN (hr T n b) := fun b => (st_eq _ (hr_le hB b)).2.1
  refine eX3_readNumber M (bX3_readNumber_0 M ?_)
  have f47 : ∀ i x M (R : PR), 0 < i → x < 100000 → CR n M0 (.inr (a + i, l)) M → (if dgN (hr T n (a + i)) then (.inl (2000 + (a + i)) : PR) else .inr (a + i, emit l 48 x)) = R → AX3_readNumber (d + 1) (fun r M' => r = none ∧ CR n M0 R M') 47 [lR 61, lI (nI x), none] [] M := by
    intro i x M R hi hx h hR
    subst hR
    refine bX3_readNumber_47 M _ ((c_isNext hB h 3 (by decide) (by omega)).i (nx_r (fun q => ?_) (fun q => ?_)))
    · rw [st3] at q
      refine bX3_readNumber_61 M _ (c_addSign h hn (fun b l' e => by cases e; omega) (by omega) (fun p M' _ _ h' => ⟨rfl, ?_⟩))
      rw [q]; exact h'
    · rw [st3] at q
      refine c_fail hn h 2 (by decide) (by decide) (fun M1 h1 => bX3_readNumber_61 M1 _ (c_addSign h1 hn (fun b l' e => by cases e) (by omega) (fun p M' _ _ h' => ⟨rfl, ?_⟩)))
      rw [q]; exact h'
  have key : ∀ j i x M (R : PR), j + i = 5 → x < 10 ^ i → CR n M0 (.inr (a + i, l)) M → numP l (numS T n j (a + i) x) = R → AX3_readNumber (d + 1) (fun r M' => r = none ∧ CR n M0 R M') 4 [lR 61, lI (nI x), lI (nI i)] [] M := by
    intro j
    induction j with
    | zero =>
      intro i x M R hj hx h hR
      have hi : i = 5 := by omega
      subst hi
      refine bX3_readNumber_4 M _ _ (bq_le 5 5 rfl rfl (by omega) (by omega) (fun _ => f47 5 x M R (by omega) hx h ?_) (fun z => by omega))
      rw [← hR, numS]
      split <;> rfl
    | succ j ih =>
      intro i x M R hj hx h hR
      refine bX3_readNumber_4 M _ _ (bq_le 5 i rfl rfl (by omega) (by omega) (fun z => by omega) (fun _ => (c_isNext hB h 3 (by decide) (by omega)).i (nx_r (fun q => ?_) (fun q => ?_))))
      · rw [st3] at q
        have hi : 0 < i := by
          rcases Nat.eq_zero_or_pos i with e | e
          · subst e; rw [show a + 0 = a from rfl, hg] at q; cases q
          · exact e
        have h5 : x < 100000 := Nat.lt_of_lt_of_le hx (Nat.le_trans (Nat.pow_le_pow_right (by omega) (show i ≤ 5 by omega)) (by decide))
        refine f47 i x M R hi h5 h ?_
        rw [← hR, numS, q]; rfl
      · rw [st3] at q
        have q2 : 48 ≤ hr T n (a + i) ∧ hr T n (a + i) ≤ 57 := of_decide_eq_true q
        have q1 := hr_lt (T := T) (n := n) (a := a + i) (by omega)
        refine (c_sign hB h).i ?_
        rw [sg_hr hB q1, nI_1 i]
        have e : nI x * 10 + nI (hr T n (a + i)) - 48 = nI (10 * x + hr T n (a + i) - 48) := by
          rw [show (10 : Int32) = nI 10 from rfl, show (48 : Int32) = nI 48 from rfl, pk_mul, nI_add, pk_sub (by omega), Nat.mul_comm]
        rw [e]
        refine ih (i + 1) _ _ R (by omega) ?_ (h.step q1) ?_
        · rw [Nat.pow_succ]; omega
        · rw [← hR, numS, q]; rfl
  exact key 5 0 0 M _ rfl (by decide) h rfl
theorem c_readFactor (hB : BT T n M0) (k : Nat) (hk : k ≤ 6) (hs : ∀ j d, k = j + 1 → 3 * j + 8 ≤ d → CM n M0 d iX3_readSum [.ref 61, .int (nI (6 - j))] (sumS T n j)) (hd : 3 * k + 6 ≤ d) : CM n M0 d iX3_readFactor [.ref 61, .int (nI (6 - k))] (facK T n k) := by
  obtain ⟨d, rfl⟩ : ∃ d', d = d' + 4 := ⟨d - 4, by omega⟩
  have hn := hB.1
  intro r M h
  refine eX3_readFactor M _ (bX3_readFactor_0 M _ ?_)
  match r, h with
  | .inl e, h => exact ⟨fun z => absurd z h.fe, fun _ => ⟨rfl, h⟩⟩
  | .inr (a, l), h =>
    have se := st_eq _ (hr_le hB a)
    have hla := h.le
    refine ⟨fun _ => (c_isNext hB h 2 (by decide) (by omega)).i (nx_r (fun q => (c_isNext hB h 3 (by decide) (by omega)).i (nx_r (fun q3 => (c_isNext hB h 4 (by decide) (by omega)).i (nx_r (fun q4 => ?_) (fun q4 => ?_))) (fun q3 => ?_))) (fun q => ?_)), fun z => absurd h.f0 z⟩
    · rw [se.1] at q; rw [se.2.1] at q3; rw [se.2.2.1] at q4
      refine c_fail hn h 1 (by decide) (by decide) (fun M' h' => ⟨rfl, ?_⟩)
      show CR n M0 (facK T n k a l) M'
      rw [facK_e (of_decide_eq_false q) q3 (of_decide_eq_false q4)]
      exact h'
    · rw [se.1] at q; rw [se.2.1] at q3; rw [se.2.2.1] at q4
      have q4 := of_decide_eq_true q4
      have ha : a < n := by
        by_cases z : a < n
        · exact z
        · rw [hr, if_neg z] at q4; exact absurd q4 (by decide)
      have hT : hr T n a < 256 := by rw [hr, if_pos ha]; exact (hB.2.2 a ha).1
      refine (c_sign hB h).i ?_
      rw [sg_hr hB ha, ix_let _ hT q4]
      refine c_addRaw (z := l 0 1) h.2.2.2.2.2.2.1 (by omega) ⟨rfl, ?_⟩
      show CR n M0 (facK T n k a l) _
      rw [facK_l (of_decide_eq_false q) q3 q4]
      have e61 : adM M (l 0 1) 97 (nI (letN (hr T n a))) 61 = M 61 := adM_row (by decide) (by decide) (by decide)
      obtain ⟨i1, i2, i3, i4, i5, i6⟩ := h.2
      refine ⟨(h.1.ad _ _ _).w (Or.inr (Or.inr ⟨rfl, Or.inl rfl⟩)), ha, ?_, i3.em (by omega), ?_, ?_, (i6.ad 97 (letN (hr T n a))).w (by decide) (by decide) (by decide)⟩
      · show emit l 97 (letN (hr T n a)) 0 1 ≤ a + 1; rw [em_n]; omega
      · rw [wr_el (by decide), e61]; exact i4
      · rw [wr_same, e61, i5]; exact nI_1 a
    · rw [se.1] at q; rw [se.2.1] at q3
      refine (c_readNumber hB h q3 (by omega)).mono (fun M' h' => ⟨rfl, ?_⟩)
      show CR n M0 (facK T n k a l) _
      rw [facK_n (of_decide_eq_false q) q3]
      exact h'
    · rw [se.1] at q
      have q := of_decide_eq_true q
      have ha := hr_lt (T := T) (n := n) (a := a) (by omega)
      refine c_opens hB h ha k hk (by omega) (fun k0 M' h' => ⟨fun _ => ⟨rfl, ?_⟩, fun z => absurd z h'.fe⟩) (fun k0 M' h' => ⟨fun z => absurd h'.f0 z, fun _ => ?_⟩)
      · subst k0
        show CR n M0 (facK T n 0 a l) _
        rw [facK_0 q]
        exact h'
      · obtain ⟨j, rfl⟩ : ∃ j, k = j + 1 := ⟨k - 1, by omega⟩
        have e6 : nI (6 - (j + 1)) + 1 = nI (6 - j) := by rw [nI_1]; congr 1; omega
        rw [e6]
        refine (hs j _ rfl (by omega) _ M' h').mono (fun M2 h2 => (c_pass hB 93 (by decide) (by omega) _ M2 h2).mono (fun M3 h3 => ⟨rfl, ?_⟩))
        show CR n M0 (facK T n (j + 1) a l) _
        rw [facK_s q]
        exact h3
theorem c_readTerm (hB : BT T n M0) {F h0 : Nat} {x1 : Int32} {fac : Nat → VD → PR} (hF : 4 ≤ F) (hfac : ∀ d, F ≤ d → CM n M0 d iX3_readFactor [.ref 61, .int x1] fac) (hG : GP n fac h0 false) (hd : F + 1 ≤ d) : CM n M0 d iX3_readTerm [.ref 61, .int x1] (termS T n fac) := by
  obtain ⟨d, rfl⟩ : ∃ d', d = d' + 1 := ⟨d - 1, by omega⟩
  have hn := hB.1
  have key : ∀ k i r M, CR n M0 r M → k + i = 161 → (∀ a l, r = .inr (a, l) → i < a) → AX3_readTerm (d + 1) (fun r' M' => r' = none ∧ CR n M0 (pb r (opsS T n mulN fac k)) M') 7 [lR 61, lI x1, lI (nI i), none] [] M := by
    intro k
    induction k with
    | zero =>
      intro i r M h hk hi
      match r, h, hi with
      | .inl e, h, hi => exact bX3_readTerm_7 M _ _ ⟨fun _ => ⟨rfl, h⟩, fun _ => (c_isNext hB h 5 (by decide) (by omega)).i (nx_l ⟨rfl, h⟩)⟩
      | .inr (a, l), h, hi => have := hi a l rfl; have := h.le; omega
    | succ k ih =>
      intro i r M h hk hi
      match r, h, hi with
      | .inl e, h, hi => exact bX3_readTerm_7 M _ _ ⟨fun _ => ⟨rfl, h⟩, fun _ => (c_isNext hB h 5 (by decide) (by omega)).i (nx_l ⟨rfl, h⟩)⟩
      | .inr (a, l), h, hi =>
        have hi := hi a l rfl
        have hla := h.le
        have se := (st_eq _ (hr_le hB a)).2.2.2.1
        refine bX3_readTerm_7 M _ _ (bq_le 160 i rfl rfl (by omega) (by omega) (fun z => by omega) (fun _ => (c_isNext hB h 5 (by decide) (by omega)).i (nx_r (fun q => ⟨rfl, ?_⟩) (fun q => (c_sign hB h).i ?_))))
        · rw [se] at q
          show CR n M0 (opsS T n mulN fac (k + 1) a l) M
          rw [opsS, q]; exact h
        · rw [se] at q
          have qq : hr T n a = 42 ∨ hr T n a = 47 ∨ hr T n a = 37 := of_decide_eq_true q
          have ha := hr_lt (T := T) (n := n) (a := a) (by omega)
          have E : pb (.inr (a, l)) (opsS T n mulN fac (k + 1)) = pb (pb (fac (a + 1) l) (fun b l' => .inr (b, emit l' (hr T n a) 0))) (opsS T n mulN fac k) := by
            show opsS T n mulN fac (k + 1) a l = _
            rw [opsS, if_pos q, pb_pb]; rfl
          rw [E, sg_hr hB ha, nI_1 i]
          have gp : ∀ b l', fac (a + 1) l = .inr (b, l') → a + 1 < b ∧ l' 0 1 + 1 ≤ b := fun b l' e => by
            have g := hG (a + 1) l b l' (by omega) (by omega) hla.2.2 e
            exact ⟨g.1, by omega⟩
          refine (hfac d (by omega) _ _ (h.step ha)).mono (fun M3 h3 => c_addSign h3 hn (v := 0) (fun b l' e => (gp b l' e).2) (by decide) (fun p M4 _ _ h4 => ?_))
          refine ih (i + 1) _ M4 h4 (by omega) (fun b l' e => ?_)
          obtain ⟨c, l2, e1, e2⟩ := pb_inr e
          cases e2
          have := (gp _ _ e1).1
          omega
  intro r M h
  refine eX3_readTerm M _ (bX3_readTerm_0 M _ ((hfac d (by omega) r M h).mono (fun M1 h1 => ?_)))
  have := key 161 0 (pb r fac) M1 h1 rfl (fun a l e => by
    obtain ⟨c, l2, e1, e2⟩ := pb_inr e
    subst e1
    have := h.le
    have := (hG c l2 a l this.1 this.2.1 this.2.2 e2).1
    omega)
  rw [pb_pb] at this
  exact this
theorem c_readSumOf (hB : BT T n M0) {F h0 : Nat} {x1 : Int32} {fac : Nat → VD → PR} (hF : 4 ≤ F) (hfac : ∀ d, F ≤ d → CM n M0 d iX3_readTerm [.ref 61, .int x1] (termS T n fac)) (hG : GP n (termS T n fac) h0 false) (hd : F + 1 ≤ d) : CM n M0 d iX3_readSum [.ref 61, .int x1] (sumOf T n fac) := by
  obtain ⟨d, rfl⟩ : ∃ d', d = d' + 1 := ⟨d - 1, by omega⟩
  have hn := hB.1
  have key : ∀ k i r M, CR n M0 r M → k + i = 161 → (∀ a l, r = .inr (a, l) → i < a) → AX3_readSum (d + 1) (fun r' M' => r' = none ∧ CR n M0 (pb r (opsS T n addN (termS T n fac) k)) M') 7 [lR 61, lI x1, lI (nI i), none] [] M := by
    intro k
    induction k with
    | zero =>
      intro i r M h hk hi
      match r, h, hi with
      | .inl e, h, hi => exact bX3_readSum_7 M _ _ ⟨fun _ => ⟨rfl, h⟩, fun _ => (c_isNext hB h 6 (by decide) (by omega)).i (nx_l ⟨rfl, h⟩)⟩
      | .inr (a, l), h, hi => have := hi a l rfl; have := h.le; omega
    | succ k ih =>
      intro i r M h hk hi
      match r, h, hi with
      | .inl e, h, hi => exact bX3_readSum_7 M _ _ ⟨fun _ => ⟨rfl, h⟩, fun _ => (c_isNext hB h 6 (by decide) (by omega)).i (nx_l ⟨rfl, h⟩)⟩
      | .inr (a, l), h, hi =>
        have hi := hi a l rfl
        have hla := h.le
        have se := (st_eq _ (hr_le hB a)).2.2.2.2.1
        refine bX3_readSum_7 M _ _ (bq_le 160 i rfl rfl (by omega) (by omega) (fun z => by omega) (fun _ => (c_isNext hB h 6 (by decide) (by omega)).i (nx_r (fun q => ⟨rfl, ?_⟩) (fun q => (c_sign hB h).i ?_))))
        · rw [se] at q
          show CR n M0 (opsS T n addN (termS T n fac) (k + 1) a l) M
          rw [opsS, q]; exact h
        · rw [se] at q
          have qq : hr T n a = 43 ∨ hr T n a = 45 := of_decide_eq_true q
          have ha := hr_lt (T := T) (n := n) (a := a) (by omega)
          have E : pb (.inr (a, l)) (opsS T n addN (termS T n fac) (k + 1)) = pb (pb (termS T n fac (a + 1) l) (fun b l' => .inr (b, emit l' (hr T n a) 0))) (opsS T n addN (termS T n fac) k) := by
            show opsS T n addN (termS T n fac) (k + 1) a l = _
            rw [opsS, if_pos q, pb_pb]; rfl
          rw [E, sg_hr hB ha, nI_1 i]
          have gp : ∀ b l', termS T n fac (a + 1) l = .inr (b, l') → a + 1 < b ∧ l' 0 1 + 1 ≤ b := fun b l' e => by
            have g := hG (a + 1) l b l' (by omega) (by omega) hla.2.2 e
            exact ⟨g.1, by omega⟩
          refine (hfac d (by omega) _ _ (h.step ha)).mono (fun M3 h3 => c_addSign h3 hn (v := 0) (fun b l' e => (gp b l' e).2) (by decide) (fun p M4 _ _ h4 => ?_))
          refine ih (i + 1) _ M4 h4 (by omega) (fun b l' e => ?_)
          obtain ⟨c, l2, e1, e2⟩ := pb_inr e
          cases e2
          have := (gp _ _ e1).1
          omega
  intro r M h
  refine eX3_readSum M _ (bX3_readSum_0 M _ ((hfac d (by omega) r M h).mono (fun M1 h1 => ?_)))
  have := key 161 0 (pb r (termS T n fac)) M1 h1 rfl (fun a l e => by
    obtain ⟨c, l2, e1, e2⟩ := pb_inr e
    subst e1
    have := h.le
    have := (hG c l2 a l this.1 this.2.1 this.2.2 e2).1
    omega)
  rw [pb_pb] at this
  exact this
theorem c_readSum (hB : BT T n M0) : ∀ k d, k ≤ 6 → 3 * k + 8 ≤ d → CM n M0 d iX3_readSum [.ref 61, .int (nI (6 - k))] (sumS T n k) := by
  intro k
  induction k with
  | zero =>
    intro d hk hd
    rw [sumS_eq]
    exact c_readSumOf hB (F := 7) (by omega) (fun d hd => c_readTerm hB (F := 6) (by omega) (fun d hd => c_readFactor hB 0 hk (fun j d e => by omega) (by omega)) (facK_G 0) (by omega)) (termS_G (by omega) (facK_G 0)) (by omega)
  | succ k ih =>
    intro d hk hd
    rw [sumS_eq]
    exact c_readSumOf hB (F := 3 * k + 10) (by omega) (fun d hd => c_readTerm hB (F := 3 * k + 9) (by omega) (fun d hd => c_readFactor hB (k + 1) hk (fun j d e hd => by cases e; exact ih d (by omega) hd) (by omega)) (facK_G (k + 1)) (by omega)) (termS_G (by omega) (facK_G (k + 1))) (by omega)
end CS
