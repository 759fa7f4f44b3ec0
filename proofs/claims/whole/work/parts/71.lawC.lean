/-! the class reads a whole text; its law -/
def txV (r : PR) (x : Int32) (M : Mem) : Prop := match r with
  | .inl e => 0 < e ∧ e < 6000 ∧ x = -(nI e)
  | .inr q => q.2 0 0 ≤ 12 ∧ x = nI (q.2 0 0) ∧ LC 53 M q.2
section CTX
variable {T : Nat → Nat} {n d : Nat} {M0 M M' : Mem} {r : PR}
theorem CTx.pass (hB : BT T n M0) (h : CTx n M0 r M) (c : Nat) (hc : c < 256) (hd : 1 ≤ d) {P : Mem → Prop} (k : ∀ M', CTx n M0 (pb r (clo T n c)) M' → P M') : AMv d iX3_pass [.ref 61, .int (nI c)] M P := by
  have hBM : BT T n M := ⟨hB.1, h.2.1.trans hB.2.1, fun j hj => ⟨(hB.2.2 j hj).1, by rw [h.1 35 (by omega)]; exact (hB.2.2 j hj).2⟩⟩
  refine (c_pass hBM c hc hd r M ⟨CF.rf _, h.2.2.1⟩).mono (fun M' h' => k M' ⟨fun q hq => (h'.1.1 q (by omega) (by omega) (by omega) (by omega)).trans (h.1 q hq), h'.1.2.1.trans h.2.1, h'.2, ?_⟩)
  match r, h with
  | .inl e, h =>
    obtain ⟨c, h1, h2⟩ := h.2.2.2
    exact ⟨c, h1, h'.1.2.2.trans h2⟩
  | .inr (a, l), h =>
    obtain ⟨h1, h2, h3⟩ := h.2.2.2
    show CTi (clo T n c a l) M'
    rw [clo]
    split
    · refine ⟨h1, h'.1.2.2.trans h2, fun j hj => ?_⟩
      rw [h'.1.1 56 (by omega) (by omega) (by omega) (by omega), h'.1.1 57 (by omega) (by omega) (by omega) (by omega), h'.1.1 58 (by omega) (by omega) (by omega) (by omega), h'.1.1 59 (by omega) (by omega) (by omega) (by omega)]
      exact h3 j hj
    · exact ⟨l 0 0, h1, h'.1.2.2.trans h2⟩
theorem c_readText (hn : n ≤ 160) (hT : ∀ j, j < n → T j < 256 ∧ M 35 j = nI (T j)) (hd : 29 ≤ d) : AMi d iX3_readText [.ref 61, .int (nI n)] M (fun x M' => (∀ k, (k < 53 ∨ 61 < k) → M' k = M k) ∧ txV (txtR T n) x M') := by
  obtain ⟨d, rfl⟩ : ∃ d', d = d' + 1 := ⟨d - 1, by omega⟩
  refine eX3_readText M _ (bX3_readText_0 M _ ?_)
  rw [if_neg (show ¬ (160 : Int32) < nI n from nI_nlt (a := 160) (by omega) (by omega))]
  refine eX2_clear _ (bX2_clear_0 (Or.inr (Or.inr rfl)) _ ⟨rfl, ?_⟩)
  have fr : ∀ k, (k < 53 ∨ 61 < k) → wr (wr (wr (wr (wr M 61 2 (nI n)) 61 3 0) 61 4 0) 53 0 0) 53 1 0 k = M k := fun k hk => by
    rw [wr_row (by omega), wr_row (by omega), wr_row (by omega), wr_row (by omega), wr_row (by omega)]
  have hB : BT T n (wr (wr (wr (wr (wr M 61 2 (nI n)) 61 3 0) 61 4 0) 53 0 0) 53 1 0) := by
    refine ⟨hn, ?_, fun j hj => ⟨(hT j hj).1, by rw [fr 35 (by omega)]; exact (hT j hj).2⟩⟩
    rw [wr_row (by decide), wr_row (by decide), wr_el (by decide), wr_el (by decide), wr_same]
  have h0 : CTx n (wr (wr (wr (wr (wr M 61 2 (nI n)) 61 3 0) 61 4 0) 53 0 0) 53 1 0) (.inr (0, l00)) (wr (wr (wr (wr (wr M 61 2 (nI n)) 61 3 0) 61 4 0) 53 0 0) 53 1 0) := by
    refine ⟨fun _ _ => rfl, rfl, ⟨Nat.zero_le _, Nat.le_refl _, fun k hk => absurd hk (Nat.not_lt_zero _), ?_, ?_, wr_same _ _ _ _, fun k hk => absurd hk (Nat.not_lt_zero _)⟩, Nat.zero_le _, ?_, fun k hk => absurd hk (Nat.not_lt_zero _)⟩
    · rw [wr_row (by decide), wr_row (by decide), wr_same]
    · rw [wr_row (by decide), wr_row (by decide), wr_el (by decide), wr_same]; rfl
    · rw [wr_el (by decide), wr_same]; rfl
  generalize wr (wr (wr (wr (wr M 61 2 (nI n)) 61 3 0) 61 4 0) 53 0 0) 53 1 0 = M1 at fr hB h0
  refine (c_readClause hB h0 (by omega)).mono (fun M2 h2 => ?_)
  have e75 : ∀ r M2, CTx n M1 r M2 → AX3_readText (d + 1) (fun r' M' => ∃ x, r' = some x ∧ (∀ k, (k < 53 ∨ 61 < k) → M' k = M k) ∧ txV r x M') 75 [lR 61, none, none] [] M2 := by
    intro r M2 h
    refine bX3_readText_75 M2 ?_
    match r, h with
    | .inl e, h =>
      obtain ⟨i1, i2, i3, i4⟩ := h.2.2.1
      exact ⟨fun z => absurd (i3.symm.trans z) (fv_ne0 i1 i2), fun _ => ⟨_, rfl, fun k hk => (h.1 k hk).trans (fr k hk), i1, i2, i3⟩⟩
    | .inr (a, l), h =>
      obtain ⟨i1, i2, i3, i4, i5, i6, i7⟩ := h.2.2.1
      obtain ⟨t1, t2, t3⟩ := h.2.2.2
      exact ⟨fun _ => ⟨_, rfl, fun k hk => (h.1 k hk).trans (fr k hk), t1, t2, t2, i6, i7, t3⟩, fun z => absurd i4 z⟩
  have key : ∀ k i r M2, CTx n M1 r M2 → k + i = 161 → (∀ a l, r = .inr (a, l) → i < a ∧ WFL l) → AX3_readText (d + 1) (fun r' M' => ∃ x, r' = some x ∧ (∀ k, (k < 53 ∨ 61 < k) → M' k = M k) ∧ txV (pb r (txtS T n k)) x M') 34 [lR 61, none, lI (nI i)] [] M2 := by
    intro k
    induction k with
    | zero =>
      intro i r M2 h hk hi
      match r, h, hi with
      | .inl e, h, hi => exact bX3_readText_34 M2 _ ⟨fun _ => e75 _ M2 h, fun _ => ⟨fun _ => e75 _ M2 h, fun z => absurd (h.2.2.1.2.2.1.symm.trans z) (fv_ne0 h.2.2.1.1 h.2.2.1.2.1)⟩⟩
      | .inr (a, l), h, hi => have := (hi a l rfl).1; have : a ≤ n := h.2.2.1.1; omega
    | succ k ih =>
      intro i r M2 h hk hi
      match r, h, hi with
      | .inl e, h, hi => exact bX3_readText_34 M2 _ ⟨fun _ => e75 _ M2 h, fun _ => ⟨fun _ => e75 _ M2 h, fun z => absurd (h.2.2.1.2.2.1.symm.trans z) (fv_ne0 h.2.2.1.1 h.2.2.1.2.1)⟩⟩
      | .inr (a, l), h, hi =>
        obtain ⟨hia, hw⟩ := hi a l rfl
        obtain ⟨i1, i2, i3, i4, i5, i6⟩ := h.2.2.1
        have i1 : a ≤ n := i1
        have i2 : l 0 1 ≤ a := i2
        have i5 : M2 61 3 = nI a := i5
        refine bX3_readText_34 M2 _ (bq_le 160 i rfl rfl (by omega) (by omega) (fun z => by omega) (fun _ => ⟨fun z => absurd i4 z, fun _ => ?_⟩))
        rw [h.2.1.trans hB.2.1, i5]
        refine bq_le _ _ rfl rfl (by omega) (by omega) (fun z => ?_) (fun z => ?_)
        · have E : pb (.inr (a, l)) (txtS T n (k + 1)) = .inr (a, l) := by show txtS T n (k + 1) a l = _; rw [txtS, if_neg (by omega)]
          rw [E]; exact e75 _ M2 h
        · have E : pb (.inr (a, l)) (txtS T n (k + 1)) = pb (pb (pb (.inr (a, l)) (clo T n 59)) (claS T n)) (txtS T n k) := by
            show txtS T n (k + 1) a l = pb (pb (clo T n 59 a l) (claS T n)) (txtS T n k)
            rw [txtS, if_pos z, pb_pb]
          rw [E]
          refine h.pass hB 59 (by decide) (by omega) (fun M3 h3 => (c_readClause hB h3 (by omega)).mono (fun M4 h4 => ?_))
          rw [nI_1]
          refine ih (i + 1) _ M4 h4 (by omega) (fun b l' e => ?_)
          obtain ⟨b1, l1, e1, e2⟩ := pb_inr e
          obtain ⟨w1, rfl, rfl⟩ := clo_G (by omega) e1
          obtain ⟨g1, g2, g3, g4, g5⟩ := claS_W hn (by omega) (by omega) i3 hw e2
          exact ⟨by omega, g5⟩
  exact key 161 0 _ M2 h2 rfl (fun a l e => by
    obtain ⟨g1, g2, g3, g4, g5⟩ := claS_W hn (Nat.zero_le _) (Nat.le_refl _) (fun k hk => absurd hk (Nat.not_lt_zero _)) l00_W e
    exact ⟨by omega, g5⟩)
end CTX
theorem LC.copy {M M' : Mem} {a b : Nat} {l : VD} (h : LC a M l) (hl : l 0 1 ≤ 160) (hc : l 0 0 ≤ 12) (h0 : M' b 0 = M a 0) (h1 : M' b 1 = M a 1) (h2 : ∀ k, k < 160 → M' (b + 1) k = M (a + 1) k ∧ M' (b + 2) k = M (a + 2) k) (h3 : ∀ c, c < 12 → M' (b + 3) c = M (a + 3) c ∧ M' (b + 4) c = M (a + 4) c ∧ M' (b + 5) c = M (a + 5) c ∧ M' (b + 6) c = M (a + 6) c) : LC b M' l := by
  refine ⟨h0.trans h.1, h1.trans h.2.1, fun k hk => ?_, fun c hk => ?_⟩
  · obtain ⟨q1, q2⟩ := h2 k (by omega)
    rw [q1, q2]; exact h.2.2.1 k hk
  · obtain ⟨q1, q2, q3, q4⟩ := h3 c (by omega)
    rw [q1, q2, q3, q4]; exact h.2.2.2 c hk
theorem c_copyL37 {d : Nat} {M : Mem} {l : VD} (h : LC 53 M l) (hl : l 0 1 ≤ 160) (hc : l 0 0 ≤ 12) : AMv (d + 1) iX2_copyFrom [.ref 37, .ref 53] M (fun M' => LC 37 M' l ∧ ∀ k, (k < 37 ∨ 43 < k) → M' k = M k) := by
  refine eX2_copyFrom_37_53 M (bX2_copyFrom_37_53_0 M ⟨rfl, h.copy hl hc ?_ ?_ (fun k hk => ?_) (fun c hk => ?_), fun k hk => ?_⟩)
  · simp [wr, cp, va_up, upd]
  · simp [wr, cp, va_up, upd]
  · simp [wr, cp, va_up, upd, va_cpy, hk]
  · simp [wr, cp, va_up, upd, va_cpy, hk]
  · rw [cp_row (by omega), cp_row (by omega), cp_row (by omega), cp_row (by omega), cp_row (by omega), cp_row (by omega), wr_row (by omega), wr_row (by omega)]
theorem c_copyL45 {d : Nat} {M : Mem} {l : VD} (h : LC 53 M l) (hl : l 0 1 ≤ 160) (hc : l 0 0 ≤ 12) : AMv (d + 1) iX2_copyFrom [.ref 45, .ref 53] M (fun M' => LC 45 M' l ∧ ∀ k, (k < 45 ∨ 51 < k) → M' k = M k) := by
  refine eX2_copyFrom_45_53 M (bX2_copyFrom_45_53_0 M ⟨rfl, h.copy hl hc ?_ ?_ (fun k hk => ?_) (fun c hk => ?_), fun k hk => ?_⟩)
  · simp [wr, cp, va_up, upd]
  · simp [wr, cp, va_up, upd]
  · simp [wr, cp, va_up, upd, va_cpy, hk]
  · simp [wr, cp, va_up, upd, va_cpy, hk]
  · rw [cp_row (by omega), cp_row (by omega), cp_row (by omega), cp_row (by omega), cp_row (by omega), cp_row (by omega), wr_row (by omega), wr_row (by omega)]
theorem RC.law0 {M M' : Mem} {S : SS} {l : VD} (h : RC M S) (hl : LC 37 M' l) (hf : ∀ k, (k < 37 ∨ 43 < k) → M' k = M k) : RC M' (setS S 2 l) := by
  obtain ⟨h1, h2, h3, h4, h5, h6, h7⟩ := h
  refine ⟨h1.cg (hf 1 (by omega)) (fun r a b => hf _ (by omega)), ⟨by rw [hf 0 (by omega)]; exact h2.1, fun q => (h2.2 q).cg (hf 12 (by omega)) (fun r a b => hf _ (by omega))⟩, ?_, ?_, hl, h6.cg (fun r hr => hf _ (by omega)), h7.cg (hf _ (by omega)) (hf _ (by omega)) (hf _ (by omega))⟩
  · show TC M' S
    rw [TC, hf 34 (by omega), hf 35 (by omega)]; exact h3
  · show GC M' S
    rw [GC, hf 0 (by omega), hf 76 (by omega)]; exact h4
theorem RC.law1 {M M' : Mem} {S : SS} {l : VD} (h : RC M S) (hl : LC 45 M' l) (hf : ∀ k, (k < 45 ∨ 51 < k) → M' k = M k) : RC M' (setS S 3 l) := by
  obtain ⟨h1, h2, h3, h4, h5, h6, h7⟩ := h
  refine ⟨h1.cg (hf 1 (by omega)) (fun r a b => hf _ (by omega)), ⟨by rw [hf 0 (by omega)]; exact h2.1, fun q => (h2.2 q).cg (hf 12 (by omega)) (fun r a b => hf _ (by omega))⟩, ?_, ?_, h5.cg (fun r hr => hf _ (by omega)), hl, h7.cg (hf _ (by omega)) (hf _ (by omega)) (hf _ (by omega))⟩
  · show TC M' S
    rw [TC, hf 34 (by omega), hf 35 (by omega)]; exact h3
  · show GC M' S
    rw [GC, hf 0 (by omega), hf 76 (by omega)]; exact h4
/-- the answer, and the state then -/
def lawX (r : PR) : Int32 := match r with
  | .inl e => -(nI e)
  | .inr q => nI (q.2 0 0)
def lawS (S : SS) (w : Nat) (r : PR) : SS := match r with
  | .inl _ => setS S 4 (setT (S 4) 0 (S 4 1))
  | .inr q => setS (setS S 4 (setT (S 4) 0 (S 4 1))) (2 + w) q.2
theorem c_lawC {S : SS} {M : Mem} (hW : WF S) (h : RC M S) {w n : Nat} (hw : w ≤ 1) (h1 : 1 ≤ n) (hn : n ≤ 160) (ht : n ≤ S 4 0 1) : AMi 60 iX9_law [.ref 0, .int (nI w), .int (nI n)] M (fun r M' => r = lawX (txtR (S 4 1) n) ∧ FrM M M' ∧ RC M' (lawS S w (txtR (S 4 1) n))) := by
  have ht2 := hW.2.2.2.1
  refine eX9_law M _ _ (bX9_law_0 M _ _ ⟨fun z => absurd z (out_nI (a := 0) (b := 1) (by omega) (by omega) (by omega) (by omega) hw), fun _ => ⟨fun z => absurd z (out_nI (a := 1) (b := 160) (by omega) (by omega) (by omega) h1 hn), fun _ => ?_⟩⟩)
  rw [h.2.2.1.1]
  refine bq_le _ _ rfl rfl (by omega) (by omega) (fun _ => ?_) (fun z => by omega)
  refine (c_readText (T := S 4 1) hn (fun j hj => ⟨hW.2.2.2.2.1 j (by omega), h.2.2.1.2 j (by omega)⟩) (by omega)).mono (fun x M1 hx => ?_)
  obtain ⟨f1, f2⟩ := hx
  have R1 : RC M1 S := h.cg (fun k hk => f1 k (by unfold PCr at hk; omega)) (h.2.2.2.2.2.2.cg (f1 _ (by omega)) (f1 _ (by omega)) (f1 _ (by omega)))
  have R2 : RC (wr M1 34 1 0) (setS S 4 (setT (S 4) 0 (S 4 1))) := R1.t4 ⟨wr_same _ _ _ _, fun j hj => by omega⟩ (fun k a _ b => wr_row a)
  have F2 : FrM M (wr M1 34 1 0) := fun k hk => (wr_row (by omega)).trans (f1 k (by omega))
  have hWt : ∀ b l, txtR (S 4 1) n = .inr (b, l) → WFL l := fun b l e => txtR_W hn e
  generalize txtR (S 4 1) n = r at f2 hWt
  match r, f2, hWt with
  | .inl e, f2, _ =>
    obtain ⟨g1, g2, rfl⟩ := f2
    exact ⟨fun _ => ⟨_, rfl, rfl, F2, R2⟩, fun z => absurd (fv_neg g1 g2) z⟩
  | .inr (b, l), f2, hWt =>
    obtain ⟨g1, rfl, g3⟩ := f2
    have wl := hWt b l rfl
    refine ⟨fun z => absurd z (nI_pos (by have := wl.1; omega)), fun _ => ?_⟩
    have g4 : LC 53 (wr M1 34 1 0) l := g3.cg (fun r hr => wr_row (by omega))
    rcases (show w = 0 ∨ w = 1 by omega) with rfl | rfl
    · exact ⟨37, Or.inl rfl, vp_in_nI (by omega) (by decide), rfl, (c_copyL37 g4 wl.2.1 wl.1).mono (fun M3 h3 => ⟨_, rfl, rfl, fun k hk => (h3.2 k (by omega)).trans (F2 k hk), R2.law0 h3.1 h3.2⟩)⟩
    · exact ⟨45, Or.inr (Or.inl rfl), vp_in_nI (by omega) (by decide), rfl, (c_copyL45 g4 wl.2.1 wl.1).mono (fun M3 h3 => ⟨_, rfl, rfl, fun k hk => (h3.2 k (by omega)).trans (F2 k hk), R2.law1 h3.1 h3.2⟩)⟩
