/-! STEPS -/
/-- what the letters stand for, from a to b -/
def f2S (s : VD) (a b : Nat) : Nat → Int32 := fun j => nI ([tallS s b, s 2 b, s 3 b, s 4 b, s 1 b, b, tallS s a, s 2 a, s 3 a, s 1 a, s 0 3, 0].getD j 0)
/-- of one alone, in a year with a draw -/
def f1S (s : VD) (p dr : Nat) : Nat → Int32 := fun j => nI ([tallS s p, s 2 p, s 3 p, s 4 p, s 1 p, p, 0, 0, 0, 0, s 0 3, dr].getD j 0)
def EB (s l : VD) (a b : Nat) : Bool := decide ((s 0 1).testBit a = true ∧ (s 0 1).testBit b = true ∧ tallS s a < tallS s b ∧ ¬ s 1 b = 3) && !anyL l (f2S s a b) 110
theorem EB_t {s l : VD} {a b : Nat} : EB s l a b = true ↔ (s 0 1).testBit a = true ∧ (s 0 1).testBit b = true ∧ tallS s a < tallS s b ∧ ¬ s 1 b = 3 ∧ anyL l (f2S s a b) 110 = false := by
  rw [EB, Bool.and_eq_true, decide_eq_true_eq, Bool.not_eq_true']
  constructor
  · rintro ⟨⟨h1, h2, h3, h4⟩, h5⟩; exact ⟨h1, h2, h3, h4, h5⟩
  · rintro ⟨h1, h2, h3, h4, h5⟩; exact ⟨⟨h1, h2, h3, h4⟩, h5⟩
/-- what a STEP asks -/
def prN (s l : VD) (a b : Nat) : Nat := (if s 1 b = 1 then s 5 b else 0) + ix (fwL l (f2S s a b) 112 999)
def stV (s l : VD) (a b : Nat) : Int32 := if EB s l a b then nI (prN s l a b) else 1000000000
theorem clamp_in {most v : Int32} (hm : 0 ≤ most) : 0 ≤ clampV most v ∧ clampV most v ≤ most := by
  rw [clampV]
  by_cases h : 0 ≤ v
  · rw [if_pos h]
    by_cases h2 : v ≤ most
    · rw [if_pos h2]; exact ⟨h, h2⟩
    · rw [if_neg h2]; exact ⟨hm, Int32.le_refl _⟩
  · rw [if_neg h]; exact ⟨Int32.le_refl _, hm⟩
theorem fw_in {l : VD} {f : Nat → Int32} {g : Nat} {most : Int32} (hm : 0 ≤ most) : 0 ≤ fwL l f g most ∧ fwL l f g most ≤ most := by
  have key : ∀ n c, 0 ≤ fwF l f g most n c ∧ fwF l f g most n c ≤ most := by
    intro n
    induction n with
    | zero => intro c; exact ⟨Int32.le_refl _, hm⟩
    | succ n ih =>
      intro c
      rw [fwF]
      split
      · exact clamp_in hm
      · exact ih _
  exact key _ _
theorem fw_nI {l : VD} {f : Nat → Int32} {g : Nat} (m : Nat) (hm : m < 2 ^ 31) : ∃ n, n ≤ m ∧ fwL l f g (nI m) = nI n := by
  obtain ⟨h1, h2⟩ := fw_in (l := l) (f := f) (g := g) (most := nI m) (nI_pos' hm)
  obtain ⟨n, hn, e⟩ := nI_of2 (M := nI m) (n := m) (nI_toInt hm) (Int32.not_lt.mpr h1) h2
  exact ⟨n, hn, e⟩
theorem pr_eq (s l : VD) (a b : Nat) : nI (prN s l a b) = nI (if s 1 b = 1 then s 5 b else 0) + fwL l (f2S s a b) 112 999 ∧ prN s l a b ≤ (if s 1 b = 1 then s 5 b else 0) + 999 := by
  obtain ⟨n, hn, e⟩ := fw_nI (l := l) (f := f2S s a b) (g := 112) 999 (by omega)
  have e : fwL l (f2S s a b) 112 999 = nI n := e
  rw [prN, e, ix_nI (by omega), nI_add]
  exact ⟨rfl, by omega⟩
theorem pr_le {s l : VD} (hs : WFV s) {a b : Nat} (hb : b < 16) : prN s l a b ≤ 1998 := by
  have := (pr_eq s l a b).2
  have w := hs.2.2.2.2.2.1 b hb
  split at this <;> omega
section MSTEP
variable {d w a b : Nat} {s l : VD} {M : Mem}
theorem c_feels (hs : WFV s) (h : VM M s) {p : Nat} (hp : p < 16) : AMv (d + 1) iX10_feels [.ref 77, .int (nI p)] M (fun M' => (∀ j, j < 12 → M' 97 j = f1S s p 0 j) ∧ ∀ k, k ≠ 97 → M' k = M k) := by
  have vi : vp_in (nI p) 16 := vp_in_nI hp (by decide)
  refine eX10_feels M _ (bX10_feels_0 M _ ?_)
  refine up_loop (P := fun i => ∀ M', (∀ j, 6 ≤ j → j < i → M' 97 j = 0) → (∀ k, k ≠ 97 → M' k = M k) → AX10_feels (d + 1) (fun r M' => r = none ∧ (∀ j, j < 12 → M' 97 j = f1S s p 0 j) ∧ ∀ k, k ≠ 97 → M' k = M k) 3 [lR 77, lI (nI p), lI (nI i)] [] M') 12 6 (by omega) ?_ ?_ M (fun j _ _ => by omega) (fun _ _ => rfl)
  · intro M' h1 h2
    have h' : VM M' s := VRel.cg h (fun i _ => by rw [h2 77 (by omega)]) (fun r q1 q2 => h2 _ (by revert q2; revert q1; revert r; decide))
    have k1 : M' 78 p = nI (s 1 p) := h'.2 1 p (by decide) (by decide) hp
    have k2 : M' 79 p = nI (s 2 p) := h'.2 2 p (by decide) (by decide) hp
    have k3 : M' 80 p = nI (s 3 p) := h'.2 3 p (by decide) (by decide) hp
    have k4 : M' 81 p = nI (s 4 p) := h'.2 4 p (by decide) (by decide) hp
    have ky : M' 77 2 = nI (s 0 3) := h'.1 3 (by decide)
    refine bX10_feels_3 M' _ _ (bq_le 12 12 rfl rfl (by omega) (by omega) (fun _ => (c_tallOf hs h' hp).i ⟨vi, vi, vi, vi, rfl, fun j hj => ?_, fun k hk => ?_⟩) (fun z => by omega))
    · rw [ix_nI (by omega), k1, k2, k3, k4, ky]
      match j, hj with
      | 0, _ => simp [wr, va_up, upd, f1S]
      | 1, _ => simp [wr, va_up, upd, f1S]
      | 2, _ => simp [wr, va_up, upd, f1S]
      | 3, _ => simp [wr, va_up, upd, f1S]
      | 4, _ => simp [wr, va_up, upd, f1S]
      | 5, _ => simp [wr, va_up, upd, f1S]
      | 6, _ => simp [wr, va_up, upd, f1S, h1 6 (by omega) (by omega)]; rfl
      | 7, _ => simp [wr, va_up, upd, f1S, h1 7 (by omega) (by omega)]; rfl
      | 8, _ => simp [wr, va_up, upd, f1S, h1 8 (by omega) (by omega)]; rfl
      | 9, _ => simp [wr, va_up, upd, f1S, h1 9 (by omega) (by omega)]; rfl
      | 10, _ => simp [wr, va_up, upd, f1S]
      | 11, _ => simp [wr, va_up, upd, f1S, h1 11 (by omega) (by omega)]; rfl
      | j + 12, h => omega
    · rw [wr_row hk, wr_row hk, wr_row hk, wr_row hk, wr_row hk, wr_row hk, wr_row hk, h2 k hk]
  · intro i hi6 hi ih M' h1 h2
    refine bX10_feels_3 M' _ _ (bq_le 12 i rfl rfl (by omega) (by omega) (fun z => by omega) (fun _ => ⟨vp_in_nI hi (by decide), ?_⟩))
    rw [nI_1, ix_nI (by omega)]
    refine ih _ (fun j q1 q2 => ?_) (fun k hk => (wr_row hk).trans (h2 k hk))
    by_cases z : j = i
    · subst z; exact wr_same _ _ _ _
    · rw [wr_el z]; exact h1 j q1 (by omega)
theorem VM.off {M M' : Mem} {s : VD} (h : VM M s) (hf : ∀ k, k ≠ 96 → k ≠ 97 → k ≠ 98 → M' k = M k) : VM M' s := VRel.cg h (fun i _ => by rw [hf 77 (by omega) (by omega) (by omega)]) (fun r q1 q2 => hf _ (by revert q2; revert q1; revert r; decide) (by revert q2; revert q1; revert r; decide) (by revert q2; revert q1; revert r; decide))
theorem LM.off2 {w : Nat} {M M' : Mem} {l : VD} (h : LM w M l) (hf : ∀ k, k ≠ 96 → k ≠ 97 → k ≠ 98 → M' k = M k) : LM w M' l := by
  rw [LM, hf 91 (by omega) (by omega) (by omega), hf 90 (by omega) (by omega) (by omega), hf 92 (by omega) (by omega) (by omega), hf 93 (by omega) (by omega) (by omega), hf 94 (by omega) (by omega) (by omega), hf 95 (by omega) (by omega) (by omega)]; exact h
theorem c_stepBy (hs : WFV s) (hl : WFL l) (h : VM M s) (hw : w ≤ 1) (hL : LM w M l) (ha : a < s 0 0) (hb : b < s 0 0) : AMi (d + 3) iX10_stepBy [.ref 77, .int (nI w), .int (nI a), .int (nI b)] M (fun r M' => r = stV s l a b ∧ ∀ k, k ≠ 96 → k ≠ 97 → M' k = M k) := by
  have hn := hs.1
  have hlv := hs.live
  have kl : M 77 1 = nI (s 0 1) := h.1 1 (by decide)
  have va' : vp_in (nI a) 16 := vp_in_nI (by omega) (by decide)
  have vb' : vp_in (nI b) 16 := vp_in_nI (by omega) (by decide)
  have ta := tall_lt hs (p := a) (by omega)
  have tb := tall_lt hs (p := b) (by omega)
  have far : EB s l a b = false → ∃ x : Int32, some (1000000000 : Int32) = some x ∧ x = stV s l a b ∧ ∀ k, k ≠ 96 → k ≠ 97 → M k = M k := fun e => ⟨_, rfl, by rw [stV, e]; rfl, fun _ _ _ => rfl⟩
  have nE : ∀ q, (q → False) → (EB s l a b = true → q) → EB s l a b = false := fun q h1 h2 => by
    cases hE : EB s l a b with
    | false => rfl
    | true => exact (h1 (h2 hE)).elim
  refine eX10_stepBy M _ _ _ (bX10_stepBy_0 M _ _ _ ?_)
  rw [kl]
  refine bq_eq _ _ rfl rfl (by omega) (by omega) (fun z => far (nE _ (fun q => absurd q (Nat.lt_irrefl _)) (fun e => by have := (EB_t.mp e).2.2.1; rw [z] at this; exact this))) (fun z => bq_has _ a rfl rfl (by omega) (by omega) (fun q => far (nE _ (fun q2 => by rw [q] at q2; cases q2) (fun e => (EB_t.mp e).1))) (fun qa => bq_has _ b rfl rfl (by omega) (by omega) (fun q => far (nE _ (fun q2 => by rw [q] at q2; cases q2) (fun e => (EB_t.mp e).2.1))) (fun qb => (c_tallOf hs h (by omega)).i ((c_tallOf hs h (by omega)).i (bq_le _ _ rfl rfl (by omega) (by omega) (fun q => far (nE _ (fun q2 => by omega) (fun e => (EB_t.mp e).2.2.1))) (fun qt => ⟨vb', ?_⟩))))))
  have k1 : M 78 b = nI (s 1 b) := h.2 1 b (by decide) (by decide) (show b < 16 by omega)
  have wb := hs.2.2.2.2.2.1 b (by omega)
  rw [ix_nI (n := b) (by omega), k1]
  refine bq_ne _ 3 rfl rfl (by omega) (by omega) (fun qm => (c_feels hs h (by omega)).mono (fun M1 h1 => ?_)) (fun q => far (nE _ (fun q2 => q2 q) (fun e => (EB_t.mp e).2.2.2.1)))
  have h' : VM M1 s := h.off (fun k _ q _ => h1.2 k q)
  have hL' : LM w M1 l := hL.off2 (fun k _ q _ => h1.2 k q)
  refine (c_tallOf hs h' (by omega)).i ⟨va', va', va', ?_⟩
  have a1 : M1 78 a = nI (s 1 a) := h'.2 1 a (by decide) (by decide) (show a < 16 by omega)
  have a2 : M1 79 a = nI (s 2 a) := h'.2 2 a (by decide) (by decide) (show a < 16 by omega)
  have a3 : M1 80 a = nI (s 3 a) := h'.2 3 a (by decide) (by decide) (show a < 16 by omega)
  rw [ix_nI (n := a) (by omega), a1, a2, a3]
  generalize hM2 : wr (wr (wr (wr M1 97 6 (nI (tallS s a))) 97 7 (nI (s 2 a))) 97 8 (nI (s 3 a))) 97 9 (nI (s 1 a)) = M2
  have g2 : ∀ k, k ≠ 97 → M2 k = M1 k := fun k hk => by rw [← hM2, wr_row hk, wr_row hk, wr_row hk, wr_row hk]
  have ff : ∀ j, j < 12 → M2 97 j = f2S s a b j := by
    intro j hj
    have e1 := h1.1 j hj
    rw [← hM2]
    match j, hj with
    | 0, _ => simp [wr, va_up, upd, f2S]; rw [e1]; rfl
    | 1, _ => simp [wr, va_up, upd, f2S]; rw [e1]; rfl
    | 2, _ => simp [wr, va_up, upd, f2S]; rw [e1]; rfl
    | 3, _ => simp [wr, va_up, upd, f2S]; rw [e1]; rfl
    | 4, _ => simp [wr, va_up, upd, f2S]; rw [e1]; rfl
    | 5, _ => simp [wr, va_up, upd, f2S]; rw [e1]; rfl
    | 6, _ => simp [wr, va_up, upd, f2S]
    | 7, _ => simp [wr, va_up, upd, f2S]
    | 8, _ => simp [wr, va_up, upd, f2S]
    | 9, _ => simp [wr, va_up, upd, f2S]
    | 10, _ => simp [wr, va_up, upd, f2S]; rw [e1]; rfl
    | 11, _ => simp [wr, va_up, upd, f2S]; rw [e1]; rfl
    | j + 12, h => omega
  have hL2 : LM w M2 l := hL'.off2 (fun k _ q _ => g2 k q)
  refine (c_anyBy (g := 110) hw hL2 hl (by omega)).mono (fun r M3 hr => ?_)
  obtain ⟨rfl, h3⟩ := hr
  have g3 : ∀ k, k ≠ 96 → k ≠ 97 → M3 k = M k := fun k q1 q2 => by rw [h3 k q1, g2 k q2, h1.2 k q2]
  rw [anyL_cg hl ff]
  cases hA : anyL l (f2S s a b) 110 with
  | true =>
    refine ⟨fun z => absurd z (by decide), fun _ => ⟨_, rfl, ?_, g3⟩⟩
    rw [stV, nE _ (fun q => by rw [hA] at q; cases q) (fun e => (EB_t.mp e).2.2.2.2)]
    rfl
  | false =>
    have hE : EB s l a b = true := EB_t.mpr ⟨qa, qb, qt, qm, hA⟩
    have k1' : M3 78 b = nI (s 1 b) := by rw [g3 78 (by omega) (by omega)]; exact k1
    have k5 : M3 82 b = nI (s 5 b) := by rw [g3 82 (by omega) (by omega)]; exact h.2 5 b (by decide) (by decide) (show b < 16 by omega)
    refine ⟨fun _ => ⟨vb', ?_⟩, fun z => absurd rfl z⟩
    have hL3 : LM w M3 l := hL2.off h3
    have fin : ∀ e, e = nI (if s 1 b = 1 then s 5 b else 0) → AX10_stepBy (d + 3) (fun r M' => ∃ x, r = some x ∧ x = stV s l a b ∧ ∀ k, k ≠ 96 → k ≠ 97 → M' k = M k) 144 [lR 77, lI (nI w), none, none] [.int e] M3 := by
      intro e he
      refine bX10_stepBy_144 M3 _ _ ((c_byLaw (g := 112) (most := 999) hw hL3 hl (Or.inr rfl)).mono (fun r M4 hr => ?_))
      obtain ⟨rfl, h4⟩ := hr
      refine ⟨_, rfl, ?_, fun k q1 q2 => (h4 k q1).trans (g3 k q1 q2)⟩
      rw [stV, if_pos hE, (pr_eq s l a b).1, he, fwL_cg hl (Or.inr rfl) (fun j hj => ?_)]
      rw [h3 97 (by omega)]
      exact ff j hj
    rw [k1', k5]
    exact bq_ne _ 1 rfl rfl (by omega) (by omega) (fun z => fin _ (by rw [if_neg z]; rfl)) (fun z => ⟨vb', fin _ (by rw [if_pos z])⟩)
/-- all STEPS laid -/
def ASK (M : Mem) (s l : VD) : Prop := ∀ a b, a < s 0 0 → b < s 0 0 → M 98 (16 * a + b) = stV s l a b
theorem c_laysSteps (hs : WFV s) (hl : WFL l) (h : VM M s) (hw : w ≤ 1) (hL : LM w M l) : AMv (d + 4) iX10_laysSteps [.ref 77, .int (nI w)] M (fun M' => ASK M' s l ∧ ∀ k, k ≠ 96 → k ≠ 97 → k ≠ 98 → M' k = M k) := by
  have hn := hs.1
  have kn : ∀ M' : Mem, (∀ k, k ≠ 96 → k ≠ 97 → k ≠ 98 → M' k = M k) → M' 77 0 = nI (s 0 0) := fun M' g => by rw [g 77 (by omega) (by omega) (by omega)]; exact h.1 0 (by decide)
  refine eX10_laysSteps M _ (bX10_laysSteps_0 M _ ?_)
  refine up_loop (P := fun a => ∀ M', (∀ x y, x < a → y < s 0 0 → M' 98 (16 * x + y) = stV s l x y) → (∀ k, k ≠ 96 → k ≠ 97 → k ≠ 98 → M' k = M k) → AX10_laysSteps (d + 4) (fun r M' => r = none ∧ ASK M' s l ∧ ∀ k, k ≠ 96 → k ≠ 97 → k ≠ 98 → M' k = M k) 2 [lR 77, lI (nI w), lI (nI a), none] [] M') (s 0 0) 0 (by omega) ?_ ?_ M (fun x y hx => by omega) (fun _ _ _ _ => rfl)
  · intro M' h1 h2
    refine bX10_laysSteps_2 M' _ _ ?_
    rw [kn M' h2]
    exact bq_le _ _ rfl rfl (by omega) (by omega) (fun _ => ⟨rfl, fun x y hx hy => h1 x y hx hy, h2⟩) (fun z => by omega)
  · intro a _ ha ih M' h1 h2
    refine bX10_laysSteps_2 M' _ _ ?_
    rw [kn M' h2]
    refine bq_le _ _ rfl rfl (by omega) (by omega) (fun z => by omega) (fun _ => ?_)
    refine up_loop (P := fun b => ∀ M', (∀ x y, (x < a ∧ y < s 0 0) ∨ (x = a ∧ y < b) → M' 98 (16 * x + y) = stV s l x y) → (∀ k, k ≠ 96 → k ≠ 97 → k ≠ 98 → M' k = M k) → AX10_laysSteps (d + 4) (fun r M' => r = none ∧ ASK M' s l ∧ ∀ k, k ≠ 96 → k ≠ 97 → k ≠ 98 → M' k = M k) 12 [lR 77, lI (nI w), lI (nI a), lI (nI b)] [] M') (s 0 0) 0 (by omega) ?_ ?_ M' (fun x y hx => h1 x y (by omega) (by omega)) h2
    · intro M' h1 h2
      refine bX10_laysSteps_12 M' _ _ _ ?_
      rw [kn M' h2, nI_1]
      exact bq_le _ _ rfl rfl (by omega) (by omega) (fun _ => ih M' (fun x y hx hy => h1 x y (by omega)) h2) (fun z => by omega)
    · intro b _ hb ih2 M' h1 h2
      refine bX10_laysSteps_12 M' _ _ _ ?_
      rw [kn M' h2]
      refine bq_le _ _ rfl rfl (by omega) (by omega) (fun z => by omega) (fun _ => (c_stepBy hs hl (h.off h2) hw (hL.off2 h2) ha hb).mono (fun r M1 hr => ?_))
      obtain ⟨rfl, h3⟩ := hr
      have e16 : (16 : Int32) * nI a + nI b = nI (16 * a + b) := by rw [show (16 : Int32) = nI 16 from rfl, pk_mul, nI_add]
      rw [e16, ix_nI (by omega), nI_1 b]
      refine ⟨vp_in_nI (by omega) (by decide), ih2 _ (fun x y hx => ?_) (fun k q1 q2 q3 => by rw [wr_row q3, h3 k q1 q2, h2 k q1 q2 q3])⟩
      by_cases z : x = a ∧ y = b
      · obtain ⟨rfl, rfl⟩ := z
        exact wr_same _ _ _ _
      · rw [wr_el (by omega), h3 98 (by omega) (by omega)]
        exact h1 x y (by omega)
end MSTEP
