/-! the clauses of a law -/
theorem evl_cg {l : VD} {f f' : Nat → Int32} {ty : Nat → List Bool} {a t : Nat} (hst : ∀ k, a ≤ k → k < t → stepOK l ty t k) (hf : ∀ j, j < 12 → f j = f' j) : ∀ n k st, a ≤ k → evl l f t n k st = evl l f' t n k st := by
  intro n
  induction n with
  | zero => intro k st _; rfl
  | succ n ih =>
    intro k st h1
    by_cases hk : t ≤ k
    · rw [ev_end hk, ev_end hk]
    · rcases hst k h1 (by omega) with ⟨hg, -, e, -⟩ | ⟨hg, -⟩ | ⟨hg, -⟩ | ⟨hg, -⟩ | ⟨hg, g1, -⟩
      · rcases hg with hg | ⟨hg, h12⟩
        · rw [ev_num hk hg, ev_num hk hg]; exact ih _ _ (by omega)
        · rw [ev_let hk hg, ev_let hk hg, hf _ h12]; exact ih _ _ (by omega)
      · match st with
        | [] => show evS _ _ _ _ _ _ = evS _ _ _ _ _ _; unfold evS; rw [if_neg hk, if_neg hk, if_neg (by omega), if_neg (by omega), if_neg (by omega), if_neg (by omega)]
        | [x] => show evS _ _ _ _ _ _ = evS _ _ _ _ _ _; unfold evS; rw [if_neg hk, if_neg hk, if_neg (by omega), if_neg (by omega), if_neg (by omega), if_neg (by omega)]; dsimp only; rw [if_neg (by omega), if_neg (by omega), if_neg (by omega), if_neg (by omega)]
        | x :: y :: r => rw [ev_op hk (Or.inl hg), ev_op hk (Or.inl hg), ih _ _ (by omega)]
      · match st with
        | [] => show evS _ _ _ _ _ _ = evS _ _ _ _ _ _; unfold evS; rw [if_neg hk, if_neg hk, if_neg (by omega), if_neg (by omega), if_neg (by omega), if_neg (by omega)]
        | [x] => show evS _ _ _ _ _ _ = evS _ _ _ _ _ _; unfold evS; rw [if_neg hk, if_neg hk, if_neg (by omega), if_neg (by omega), if_neg (by omega), if_neg (by omega)]; dsimp only; rw [if_neg (by omega), if_neg (by omega), if_neg (by omega), if_neg (by omega)]
        | x :: y :: r => rw [ev_op hk (Or.inr hg), ev_op hk (Or.inr hg), ih _ _ (by omega)]
      · match st with
        | [] => show evS _ _ _ _ _ _ = evS _ _ _ _ _ _; unfold evS; rw [if_neg hk, if_neg hk, if_neg (by omega), if_neg (by omega), if_neg (by omega), if_neg (by omega)]
        | x :: r => rw [ev_not hk hg, ev_not hk hg, ih _ _ (by omega)]
      · match st with
        | [] => show evS _ _ _ _ _ _ = evS _ _ _ _ _ _; unfold evS; rw [if_neg hk, if_neg hk, if_neg (by omega), if_neg (by omega), if_neg (by omega), if_neg (by omega)]
        | x :: r => rw [ev_jmp hk hg, ev_jmp hk hg, ih _ _ (by omega), ih _ _ (by omega)]
theorem ev_cg {l : VD} {f f' : Nat → Int32} {a b : Nat} {tb : Bool} (h : codeOK l a b tb) (hf : ∀ j, j < 12 → f j = f' j) : ev l f a b = ev l f' a b := by
  obtain ⟨-, ty, -, -, -, t3⟩ := h
  exact evl_cg t3 hf 161 a [] (Nat.le_refl _)
/-- whether one of the first k clauses of the letter holds -/
def anyB (l : VD) (f : Nat → Int32) (g : Nat) : Nat → Bool
  | 0 => false
  | k + 1 => anyB l f g k || decide (l 3 k = g ∧ ev l f (l 5 k) (l 6 k) = 1)
def anyL (l : VD) (f : Nat → Int32) (g : Nat) : Bool := anyB l f g (l 0 0)
theorem anyB_t {l : VD} {f : Nat → Int32} {g : Nat} : ∀ {k : Nat}, anyB l f g k = true ↔ ∃ c, c < k ∧ l 3 c = g ∧ ev l f (l 5 c) (l 6 c) = 1
  | 0 => ⟨fun h => (by cases h), fun ⟨c, h, _⟩ => (by omega)⟩
  | k + 1 => by
    rw [anyB, Bool.or_eq_true, anyB_t, decide_eq_true_eq]
    constructor
    · rintro (⟨c, h1, h2⟩ | h)
      · exact ⟨c, by omega, h2⟩
      · exact ⟨k, by omega, h⟩
    · rintro ⟨c, h1, h2⟩
      by_cases z : c = k
      · subst z; exact Or.inr h2
      · exact Or.inl ⟨c, by omega, h2⟩
def clampV (most v : Int32) : Int32 := if 0 ≤ v then (if v ≤ most then v else most) else 0
/-- the E of the first clause from c on whose C holds -/
def fwF (l : VD) (f : Nat → Int32) (g : Nat) (most : Int32) : Nat → Nat → Int32
  | 0, _ => 0
  | n + 1, c => if l 3 c = g ∧ ev l f (l 5 c) (l 6 c) = 1 then clampV most (ev l f (l 4 c) (l 5 c)) else fwF l f g most n (c + 1)
def fwL (l : VD) (f : Nat → Int32) (g : Nat) (most : Int32) : Int32 := fwF l f g most (l 0 0) 0
theorem LC.off {la : Nat} {M M' : Mem} {l : VD} (h : LC la M l) (hf : ∀ k, k ≠ la + 7 → M' k = M k) : LC la M' l := h.cg (fun r hr => hf _ (by omega))
theorem LM.off {w : Nat} {M M' : Mem} {l : VD} (h : LM w M l) (hf : ∀ k, k ≠ 96 → M' k = M k) : LM w M' l := by
  rw [LM, hf 91 (by omega), hf 90 (by omega), hf 92 (by omega), hf 93 (by omega), hf 94 (by omega), hf 95 (by omega)]; exact h
theorem ev1 {l : VD} {f : Nat → Int32} {a b : Nat} (h : codeOK l a b true) (hb : b ≤ 160) : ¬ ev l f a b = 0 ↔ ev l f a b = 1 := by
  rcases ev_01 (f := f) h hb with z | z <;> rw [z] <;> decide
section ANY
variable {d la q g w : Nat} {l : VD} {M : Mem}
theorem c_anyHolds (h_la : isA la) (hk_q : q < K0) (hc_q : cellD q = .inr (.inl (false, 12))) (hq : q ≠ la + 7) (hL : LC la M l) (hl : WFL l) (hg : g < 1000) : AMi (d + 2) iX2_anyHolds [.ref la, .int (nI g), .ref q] M (fun r M' => r = (if anyL l (M q) g then 1 else 0) ∧ ∀ k, k ≠ la + 7 → M' k = M k) := by
  obtain ⟨l1, l2, l3⟩ := hl
  refine eX2_anyHolds M _ (bX2_anyHolds_0 h_la hk_q hc_q M _ ?_)
  refine up_loop (P := fun c => ∀ M', anyB l (M q) g c = false → (∀ k, k ≠ la + 7 → M' k = M k) → AX2_anyHolds (d + 2) (fun r M' => ∃ x, r = some x ∧ x = (if anyL l (M q) g then 1 else 0) ∧ ∀ k, k ≠ la + 7 → M' k = M k) 2 [lR la, lI (nI g), lR q, lI (nI c)] [] M') (l 0 0) 0 (by omega) ?_ ?_ M rfl (fun _ _ => rfl)
  · intro M' h1 h2
    refine bX2_anyHolds_2 h_la hk_q hc_q M' _ _ ?_
    rw [h2 la (by omega), hL.1]
    exact bq_le _ _ rfl rfl (by omega) (by omega) (fun _ => ⟨_, rfl, by rw [anyL, h1]; rfl, h2⟩) (fun z => by omega)
  · intro c _ hc ih M' h1 h2
    have hL' := hL.off h2
    obtain ⟨q3, q4, q5, q6⟩ := hL'.2.2.2 c hc
    obtain ⟨w1, w2, w3, w4, w5, w6⟩ := l3 c hc
    have vc : vp_in (nI c) 12 := vp_in_nI (by omega) (by decide)
    refine bX2_anyHolds_2 h_la hk_q hc_q M' _ _ ?_
    rw [hL'.1, ix_nI (n := c) (by omega), q3, q5, q6, nI_1]
    refine bq_le _ _ rfl rfl (by omega) (by omega) (fun z => by omega) (fun _ => ⟨vc, bq_ne _ _ rfl rfl (by omega) (by omega) (fun z => ih M' (by rw [anyB, h1]; simp [z]) h2) (fun z => ⟨vc, vc, (c_worth h_la hk_q hc_q hq hL' l2 w3 w5).mono (fun r M1 hr => ?_)⟩)⟩)
    obtain ⟨rfl, h3⟩ := hr
    have h4 : ∀ k, k ≠ la + 7 → M1 k = M k := fun k hk => (h3 k hk).trans (h2 k hk)
    rw [h2 q hq]
    refine ⟨fun e => ih M1 (by rw [anyB, h1]; simp [e]) h4, fun e => ⟨_, rfl, ?_, h4⟩⟩
    rw [if_pos]
    exact anyB_t.mpr ⟨c, hc, z, (ev1 w5 (by omega)).mp e⟩
theorem c_firstWorth (h_la : isA la) (hk_q : q < K0) (hc_q : cellD q = .inr (.inl (false, 12))) (hq : q ≠ la + 7) (hL : LC la M l) (hl : WFL l) (hg : g = 103 ∨ g = 112) {most : Int32} (hm : 0 ≤ most) : AMi (d + 2) iX2_firstWorth [.ref la, .int (nI g), .int most, .ref q] M (fun r M' => r = fwL l (M q) g most ∧ ∀ k, k ≠ la + 7 → M' k = M k) := by
  obtain ⟨l1, l2, l3⟩ := hl
  refine eX2_firstWorth M _ _ (bX2_firstWorth_0 h_la hk_q hc_q M _ _ ?_)
  have key : ∀ n c M', c + n = l 0 0 → (∀ k, k ≠ la + 7 → M' k = M k) → AX2_firstWorth (d + 2) (fun r M' => ∃ x, r = some x ∧ x = fwF l (M q) g most n c ∧ ∀ k, k ≠ la + 7 → M' k = M k) 3 [lR la, lI (nI g), lI most, lR q, lI (nI c), none] [] M' := by
    intro n
    induction n with
    | zero =>
      intro c M' hc h2
      refine bX2_firstWorth_3 h_la hk_q hc_q M' _ _ _ ?_
      rw [h2 la (by omega), hL.1]
      exact bq_le _ _ rfl rfl (by omega) (by omega) (fun _ => ⟨_, rfl, rfl, h2⟩) (fun z => by omega)
    | succ n ih =>
      intro c M' hcn h2
      have hc : c < l 0 0 := by omega
      have hL' := hL.off h2
      obtain ⟨q3, q4, q5, q6⟩ := hL'.2.2.2 c hc
      obtain ⟨w1, w2, w3, w4, w5, w6⟩ := l3 c hc
      have vc : vp_in (nI c) 12 := vp_in_nI (by omega) (by decide)
      refine bX2_firstWorth_3 h_la hk_q hc_q M' _ _ _ ?_
      rw [hL'.1, ix_nI (n := c) (by omega), q3, q5, q6, nI_1]
      refine bq_le _ _ rfl rfl (by omega) (by omega) (fun z => by omega) (fun _ => ⟨vc, bq_ne _ _ rfl rfl (by omega) (by omega) (fun z => ?_) (fun z => ⟨vc, vc, (c_worth h_la hk_q hc_q hq hL' l2 w3 w5).mono (fun r M1 hr => ?_)⟩)⟩)
      · rw [fwF, if_neg (fun e => z e.1)]
        exact ih (c + 1) M' (by omega) h2
      · obtain ⟨rfl, h3⟩ := hr
        have h4 : ∀ k, k ≠ la + 7 → M1 k = M k := fun k hk => (h3 k hk).trans (h2 k hk)
        have hL1 := hL.off h4
        obtain ⟨q3', q4', q5', q6'⟩ := hL1.2.2.2 c hc
        rw [h2 q hq, q4', q5']
        refine ⟨fun e => ?_, fun e => ⟨vc, vc, (c_worth h_la hk_q hc_q hq hL1 l2 (by omega) (w6 (by omega))).mono (fun r M2 hr => ?_)⟩⟩
        · rw [fwF, if_neg (fun e2 => by rw [e] at e2; exact absurd e2.2 (by decide))]
          exact ih (c + 1) M1 (by omega) h4
        · obtain ⟨rfl, h5⟩ := hr
          refine ⟨_, rfl, ?_, fun k hk => (h5 k hk).trans (h4 k hk)⟩
          have e9 : fwF l (M q) g most (n + 1) c = clampV most (ev l (M q) (l 4 c) (l 5 c)) := by rw [fwF, if_pos ⟨z, (ev1 w5 (by omega)).mp e⟩]
          rw [e9, h4 q hq, clampV]
          generalize ev l (M q) (l 4 c) (l 5 c) = v
          have m0 := Int32.le_iff_toInt_le.mp hm
          have e0 : (0 : Int32).toInt = 0 := by decide
          by_cases a1 : v < most
          · rw [if_pos a1]
            have a1' := Int32.lt_iff_toInt_lt.mp a1
            by_cases a2 : 0 < v
            · rw [if_pos a2, if_pos (Int32.le_of_lt a2), if_pos (Int32.le_of_lt a1)]
            · rw [if_neg a2]
              by_cases a3 : 0 ≤ v
              · rw [if_pos a3, if_pos (Int32.le_of_lt a1)]
                exact Int32.le_antisymm a3 (Int32.not_lt.mp a2)
              · rw [if_neg a3]
          · rw [if_neg a1]
            have a1' := Int32.not_lt.mp a1
            rw [if_pos (Int32.le_trans hm a1')]
            by_cases a4 : v ≤ most
            · rw [if_pos a4]
              have : v = most := Int32.le_antisymm a4 a1'
              subst this
              by_cases a2 : 0 < v
              · rw [if_pos a2]
              · rw [if_neg a2]; exact Int32.le_antisymm hm (Int32.not_lt.mp a2)
            · rw [if_neg a4]
              by_cases a2 : 0 < most
              · rw [if_pos a2]
              · rw [if_neg a2]; exact Int32.le_antisymm hm (Int32.not_lt.mp a2)
  exact key (l 0 0) 0 M (by omega) (fun _ _ => rfl)
theorem c_anyBy (hw : w ≤ 1) (hL : LM w M l) (hl : WFL l) (hg : g < 1000) : AMi (d + 2) iX10_anyBy [.ref 77, .int (nI w), .int (nI g)] M (fun r M' => r = (if anyL l (M 97) g then 1 else 0) ∧ ∀ k, k ≠ 96 → M' k = M k) := by
  obtain ⟨l1, l2, l3⟩ := hl
  have e12 : (12 : Int32) * nI w = nI (12 * w) := by rw [show (12 : Int32) = nI 12 from rfl, pk_mul]
  have vw : vp_in (nI w) 2 := vp_in_nI (by omega) (by decide)
  refine eX10_anyBy M _ _ (bX10_anyBy_0 M _ _ ?_)
  rw [e12]
  refine up_loop (P := fun c => ∀ M', anyB l (M 97) g c = false → (∀ k, k ≠ 96 → M' k = M k) → AX10_anyBy (d + 2) (fun r M' => ∃ x, r = some x ∧ x = (if anyL l (M 97) g then 1 else 0) ∧ ∀ k, k ≠ 96 → M' k = M k) 5 [lR 77, lI (nI w), lI (nI g), lI (nI (12 * w + c))] [] M') (l 0 0) 0 (by omega) ?_ ?_ M rfl (fun _ _ => rfl)
  · intro M' h1 h2
    refine bX10_anyBy_5 M' _ _ _ ?_
    rw [e12, ix_nI (n := w) (by omega), h2 91 (by omega), hL.1, nI_add]
    exact ⟨vw, bq_le _ _ rfl rfl (by omega) (by omega) (fun _ => ⟨_, rfl, by rw [anyL, h1]; rfl, h2⟩) (fun z => by omega)⟩
  · intro c _ hc ih M' h1 h2
    have hL' := hL.off h2
    obtain ⟨q3, q4, q5, q6⟩ := hL'.2.2 c hc
    obtain ⟨w1, w2, w3, w4, w5, w6⟩ := l3 c hc
    have vc : vp_in (nI (12 * w + c)) 24 := vp_in_nI (by omega) (by decide)
    refine bX10_anyBy_5 M' _ _ _ ?_
    rw [e12, ix_nI (n := w) (by omega), hL'.1, nI_add, ix_nI (n := 12 * w + c) (by omega), q3, q5, q6, nI_1]
    refine ⟨vw, bq_le _ _ rfl rfl (by omega) (by omega) (fun z => by omega) (fun _ => ⟨vc, bq_ne _ _ rfl rfl (by omega) (by omega) (fun z => ih M' (by rw [anyB, h1]; simp [z]) h2) (fun z => ⟨vc, vc, (c_comesTo hw hL' l2 w3 w5).mono (fun r M1 hr => ?_)⟩)⟩)⟩
    obtain ⟨rfl, h3⟩ := hr
    have h4 : ∀ k, k ≠ 96 → M1 k = M k := fun k hk => (h3 k hk).trans (h2 k hk)
    rw [h2 97 (by omega)]
    refine ⟨fun e => ih M1 (by rw [anyB, h1]; simp [e]) h4, fun e => ⟨_, rfl, ?_, h4⟩⟩
    rw [if_pos]
    exact anyB_t.mpr ⟨c, hc, z, e⟩
theorem c_byLaw (hw : w ≤ 1) (hL : LM w M l) (hl : WFL l) (hg : g = 103 ∨ g = 112) {most : Int32} : AMi (d + 2) iX10_byLaw [.ref 77, .int (nI w), .int (nI g), .int most] M (fun r M' => r = fwL l (M 97) g most ∧ ∀ k, k ≠ 96 → M' k = M k) := by
  obtain ⟨l1, l2, l3⟩ := hl
  have e12 : (12 : Int32) * nI w = nI (12 * w) := by rw [show (12 : Int32) = nI 12 from rfl, pk_mul]
  have vw : vp_in (nI w) 2 := vp_in_nI (by omega) (by decide)
  refine eX10_byLaw M _ _ _ (bX10_byLaw_0 M _ _ _ ?_)
  rw [e12]
  have key : ∀ n c M', c + n = l 0 0 → (∀ k, k ≠ 96 → M' k = M k) → AX10_byLaw (d + 2) (fun r M' => ∃ x, r = some x ∧ x = fwF l (M 97) g most n c ∧ ∀ k, k ≠ 96 → M' k = M k) 6 [lR 77, lI (nI w), lI (nI g), lI most, lI (nI (12 * w + c)), none] [] M' := by
    intro n
    induction n with
    | zero =>
      intro c M' hc h2
      refine bX10_byLaw_6 M' _ _ _ _ ?_
      rw [e12, ix_nI (n := w) (by omega), h2 91 (by omega), hL.1, nI_add]
      exact ⟨vw, bq_le _ _ rfl rfl (by omega) (by omega) (fun _ => ⟨_, rfl, rfl, h2⟩) (fun z => by omega)⟩
    | succ n ih =>
      intro c M' hcn h2
      have hc : c < l 0 0 := by omega
      have hL' := hL.off h2
      obtain ⟨q3, q4, q5, q6⟩ := hL'.2.2 c hc
      obtain ⟨w1, w2, w3, w4, w5, w6⟩ := l3 c hc
      have vc : vp_in (nI (12 * w + c)) 24 := vp_in_nI (by omega) (by decide)
      refine bX10_byLaw_6 M' _ _ _ _ ?_
      rw [e12, ix_nI (n := w) (by omega), hL'.1, nI_add, ix_nI (n := 12 * w + c) (by omega), q3, q5, q6, nI_1]
      refine ⟨vw, bq_le _ _ rfl rfl (by omega) (by omega) (fun z => by omega) (fun _ => ⟨vc, bq_ne _ _ rfl rfl (by omega) (by omega) (fun z => ?_) (fun z => ⟨vc, vc, (c_comesTo hw hL' l2 w3 w5).mono (fun r M1 hr => ?_)⟩)⟩)⟩
      · rw [fwF, if_neg (fun e => z e.1)]
        exact ih (c + 1) M' (by omega) h2
      · obtain ⟨rfl, h3⟩ := hr
        have h4 : ∀ k, k ≠ 96 → M1 k = M k := fun k hk => (h3 k hk).trans (h2 k hk)
        have hL1 := hL.off h4
        obtain ⟨q3', q4', q5', q6'⟩ := hL1.2.2 c hc
        rw [h2 97 (by omega), q4', q5']
        refine ⟨fun e => ⟨vc, vc, (c_comesTo hw hL1 l2 (by omega) (w6 (by omega))).mono (fun r M2 hr => ?_)⟩, fun e => ?_⟩
        · obtain ⟨rfl, h5⟩ := hr
          have h6 : ∀ k, k ≠ 96 → M2 k = M k := fun k hk => (h5 k hk).trans (h4 k hk)
          have e9 : fwF l (M 97) g most (n + 1) c = clampV most (ev l (M 97) (l 4 c) (l 5 c)) := by rw [fwF, if_pos ⟨z, e⟩]
          rw [e9, h4 97 (by omega), clampV]
          exact ⟨fun a1 => ⟨fun a2 => ⟨_, rfl, by rw [if_pos a1, if_pos a2], h6⟩, fun a2 => ⟨_, rfl, by rw [if_pos a1, if_neg a2], h6⟩⟩, fun a1 => ⟨_, rfl, by rw [if_neg a1], h6⟩⟩
        · rw [fwF, if_neg (fun e2 => e e2.2)]
          exact ih (c + 1) M1 (by omega) h4
  exact key (l 0 0) 0 M (by omega) (fun _ _ => rfl)
end ANY
theorem anyL_cg {l : VD} {f f' : Nat → Int32} {g : Nat} (hl : WFL l) (hf : ∀ j, j < 12 → f j = f' j) : anyL l f g = anyL l f' g := by
  have key : ∀ k, k ≤ l 0 0 → anyB l f g k = anyB l f' g k := by
    intro k
    induction k with
    | zero => intro _; rfl
    | succ k ih => intro hk; rw [anyB, anyB, ih (by omega), ev_cg (hl.2.2 k (by omega)).2.2.2.2.1 hf]
  exact key _ (Nat.le_refl _)
theorem fwL_cg {l : VD} {f f' : Nat → Int32} {g : Nat} {most : Int32} (hl : WFL l) (hg : g = 103 ∨ g = 112) (hf : ∀ j, j < 12 → f j = f' j) : fwL l f g most = fwL l f' g most := by
  have key : ∀ n c, c + n = l 0 0 → fwF l f g most n c = fwF l f' g most n c := by
    intro n
    induction n with
    | zero => intro c _; rfl
    | succ n ih =>
      intro c hc
      obtain ⟨w1, w2, w3, w4, w5, w6⟩ := hl.2.2 c (by omega)
      rw [fwF, fwF, ev_cg w5 hf, ih (c + 1) (by omega)]
      by_cases z : l 3 c = g ∧ ev l f' (l 5 c) (l 6 c) = 1
      · rw [if_pos z, if_pos z, ev_cg (w6 (by omega)) hf]
      · rw [if_neg z, if_neg z]
  exact key _ _ (by omega)
