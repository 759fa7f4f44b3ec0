/-! WHAT IS COME TO -/
def Is (n : Nat) (P : Nat → Prop) : Prop := ∀ i, n.testBit i = true ↔ P i
theorem bit_ext {n m : Nat} (h : ∀ i, n.testBit i = true ↔ m.testBit i = true) : n = m := Nat.eq_of_testBit_eq (fun i => by
  have := h i
  cases e : n.testBit i <;> cases e2 : m.testBit i <;> simp [e, e2] at this ⊢)
theorem Is.un {n m : Nat} {P : Nat → Prop} (h : Is n P) (h2 : Is m P) : n = m := bit_ext (fun i => (h i).trans (h2 i).symm)
theorem Is.lt {n k : Nat} {P : Nat → Prop} (h : Is n P) (hk : ∀ i, P i → i < k) : n < 2 ^ k := lt_of_bits (fun i hi => hk i ((h i).mp hi))
theorem Is.cg {n : Nat} {P P' : Nat → Prop} (h : Is n P) (hp : ∀ i, P i ↔ P' i) : Is n P' := fun i => (h i).trans (hp i)
theorem Is_ex (P : Nat → Prop) : ∀ k, ∃ n, n < 2 ^ k ∧ Is n (fun i => i < k ∧ P i)
  | 0 => ⟨0, by decide, fun i => by simp⟩
  | k + 1 => by
    obtain ⟨n, h1, h2⟩ := Is_ex P k
    have hk : n < 2 ^ (k + 1) := Nat.lt_trans h1 (p2_lt (by omega))
    by_cases z : P k
    · refine ⟨n ||| 2 ^ k, or_lt hk (p2_lt (by omega)), fun i => ?_⟩
      rw [or1_bit, Bool.or_eq_true, h2 i, decide_eq_true_eq]
      constructor
      · rintro (⟨a, b⟩ | rfl)
        · exact ⟨by omega, b⟩
        · exact ⟨by omega, z⟩
      · rintro ⟨a, b⟩
        by_cases e : k = i
        · exact Or.inr e
        · exact Or.inl ⟨by omega, b⟩
    · refine ⟨n, hk, fun i => ?_⟩
      rw [h2 i]
      constructor
      · rintro ⟨a, b⟩; exact ⟨by omega, b⟩
      · rintro ⟨a, b⟩
        refine ⟨?_, b⟩
        by_cases e : i = k
        · subst e; exact absurd b z
        · omega
theorem or_gt {s j : Nat} (h : s.testBit j = false) : s < s ||| 2 ^ j := by
  refine Nat.lt_of_le_of_ne Nat.left_le_or (fun e => ?_)
  rw [e, or1_bit] at h
  simp at h
def RS (E : Nat → Nat → Bool) (A T x : Nat) : Prop := ∀ s : Nat → Prop, (∀ y, A.testBit y = true → s y) → (∀ a y, s a → T.testBit y = true → E a y = true → s y) → s x
section RSS
variable {E : Nat → Nat → Bool} {A T x a : Nat}
theorem RS.base (h : A.testBit x = true) : RS E A T x := fun _ h1 _ => h1 x h
theorem RS.step (h : RS E A T a) (ht : T.testBit x = true) (he : E a x = true) : RS E A T x := fun s h1 h2 => h2 a x (h s h1 h2) ht he
theorem RS.inv (h : RS E A T x) : A.testBit x = true ∨ (T.testBit x = true ∧ ∃ a, RS E A T a ∧ E a x = true) := by
  have k : RS E A T x ∧ (A.testBit x = true ∨ (T.testBit x = true ∧ ∃ a, RS E A T a ∧ E a x = true)) := h (fun x => RS E A T x ∧ (A.testBit x = true ∨ (T.testBit x = true ∧ ∃ a, RS E A T a ∧ E a x = true))) (fun y hy => ⟨RS.base hy, Or.inl hy⟩) (fun a y ha ht he => ⟨RS.step ha.1 ht he, Or.inr ⟨ht, a, ha.1, he⟩⟩)
  exact k.2
theorem RS.mono {T' : Nat} (h : RS E A T x) (ht : ∀ i, T.testBit i = true → T'.testBit i = true) : RS E A T' x := h (RS E A T') (fun y hy => RS.base hy) (fun a y ha q he => RS.step ha (ht y q) he)
theorem RS.mono2 {A' T' : Nat} (h : RS E A T x) (hA : ∀ i, A.testBit i = true → RS E A' T' i) (ht : ∀ i, T.testBit i = true → T'.testBit i = true) : RS E A' T' x := h (RS E A' T') hA (fun a y ha q he => RS.step ha (ht y q) he)
end RSS
/-- one OATH HOLDS -/
def HS (s l : VD) (p T : Nat) : Prop := (s 0 1).testBit p = true ∧ ¬ topS s = 31 ∧ RS (EB s l) (2 ^ p) T (topS s)
/-- the least asked -/
def stN (s l : VD) (a b : Nat) : Nat := if EB s l a b then prN s l a b else 1000000000
def lbN (s l : VD) (set p : Nat) : Nat → Nat
  | 0 => 1000000000
  | k + 1 => if set.testBit k then min (lbN s l set p k) (stN s l k p) else lbN s l set p k
theorem stV_nI (s l : VD) (a b : Nat) : stV s l a b = nI (stN s l a b) := by rw [stV, stN]; split <;> rfl
theorem min_nI {a b : Nat} (ha : a < 2 ^ 31) (hb : b < 2 ^ 31) : minV (nI a) (nI b) = nI (min a b) := by
  rw [minV]
  by_cases h : a < b
  · rw [if_pos (nI_lt h hb), Nat.min_eq_left (by omega)]
  · rw [if_neg (fun q => h ((nI_ltI ha hb).mp q)), Nat.min_eq_right (by omega)]
theorem EB_lt {s l : VD} (hs : WFV s) {a b : Nat} (h : EB s l a b = true) : a < s 0 0 ∧ b < s 0 0 := ⟨hs.lt (EB_t.mp h).1, hs.lt (EB_t.mp h).2.1⟩
theorem stN_le {s l : VD} (hs : WFV s) {a b : Nat} : stN s l a b ≤ 1998 ∨ stN s l a b = 1000000000 := by
  rw [stN]
  by_cases h : EB s l a b = true
  · rw [if_pos h]; have := (EB_lt hs h).2; have := hs.1; exact Or.inl (pr_le hs (by omega))
  · rw [if_neg h]; exact Or.inr rfl
theorem stN_far {s l : VD} (hs : WFV s) {a b : Nat} : stN s l a b = 1000000000 ↔ EB s l a b = false := by
  rw [stN]
  by_cases h : EB s l a b = true
  · rw [if_pos h]
    have := (EB_lt hs h).2; have := hs.1; have := pr_le (l := l) (a := a) hs (b := b) (by omega)
    exact ⟨fun z => by omega, fun z => by rw [h] at z; cases z⟩
  · rw [if_neg h]; exact ⟨fun _ => by cases e : EB s l a b with | false => rfl | true => exact absurd e h, fun _ => rfl⟩
theorem lbN_le {s l : VD} (hs : WFV s) {set p : Nat} : ∀ k, lbN s l set p k ≤ 1998 ∨ lbN s l set p k = 1000000000
  | 0 => Or.inr rfl
  | k + 1 => by
    have h1 := lbN_le hs (l := l) (set := set) (p := p) k
    have h2 := stN_le hs (l := l) (a := k) (b := p)
    rw [lbN]
    split <;> omega
theorem lbN_far {s l : VD} (hs : WFV s) {set p : Nat} : ∀ k, lbN s l set p k = 1000000000 ↔ ∀ a, a < k → set.testBit a = true → EB s l a p = false
  | 0 => ⟨fun _ a ha => by omega, fun _ => rfl⟩
  | k + 1 => by
    have h1 := lbN_le hs (l := l) (set := set) (p := p) k
    have h2 := stN_le hs (l := l) (a := k) (b := p)
    have h3 := stN_far hs (l := l) (a := k) (b := p)
    have ih := lbN_far hs (l := l) (set := set) (p := p) k
    rw [lbN]
    constructor
    · intro h a ha q
      by_cases e : a = k
      · subst e
        rw [if_pos q] at h
        exact h3.mp (by omega)
      · refine ih.mp ?_ a (by omega) q
        split at h <;> omega
    · intro h
      have i2 := ih.mpr (fun a ha q => h a (by omega) q)
      split
      · rename_i q
        have := h3.mpr (h k (by omega) q)
        omega
      · exact i2
section MR
variable {d p : Nat} {s l : VD} {M : Mem}
theorem ask_at (hs : WFV s) (hA : ASK M s l) {a b : Nat} (ha : a < s 0 0) (hb : b < s 0 0) : vp_in ((16 * nI a) + nI b) 256 ∧ M 98 (ix ((16 * nI a) + nI b)) = nI (stN s l a b) := by
  have hn := hs.1
  have e16 : (16 : Int32) * nI a + nI b = nI (16 * a + b) := by rw [show (16 : Int32) = nI 16 from rfl, pk_mul, nI_add]
  rw [e16, ix_nI (by omega), hA a b ha hb, stV_nI]
  exact ⟨vp_in_nI (by omega) (by decide), rfl⟩
theorem c_isStep (hs : WFV s) (hA : ASK M s l) {a b : Nat} (ha : a < s 0 0) (hb : b < s 0 0) : AMp d iX10_isStep [.ref 77, .int (nI a), .int (nI b)] M (if EB s l a b then 1 else 0) := by
  obtain ⟨v, e⟩ := ask_at hs hA ha hb
  have h1 := stN_le hs (l := l) (a := a) (b := b)
  have h2 := stN_far hs (l := l) (a := a) (b := b)
  refine eX10_isStep M _ _ (bX10_isStep_0 M _ _ ⟨v, ?_⟩)
  rw [e]
  refine bq_le 1000000000 (stN s l a b) rfl rfl (by omega) (by omega) (fun z => ⟨?_, rfl⟩) (fun z => ⟨?_, rfl⟩)
  · rw [h2.mp (by omega)]; rfl
  · rw [if_pos (by cases e : EB s l a b with | true => rfl | false => have := h2.mpr e; omega)]
theorem c_leastBy (hs : WFV s) (h : VM M s) (hA : ASK M s l) {set : Nat} (hset : set < 2 ^ 31) (hp : p < s 0 0) : AMp (d + 1) iX10_leastBy [.ref 77, .int (nI set), .int (nI p)] M (nI (lbN s l set p (s 0 0))) := by
  have hn := hs.1
  have kn : M 77 0 = nI (s 0 0) := h.1 0 (by decide)
  refine eX10_leastBy M _ _ (bX10_leastBy_0 M _ _ ?_)
  refine up_loop (P := fun a => AX10_leastBy (d + 1) (fun r M' => some (nI (lbN s l set p (s 0 0))) = r ∧ M = M') 7 [lR 77, lI (nI set), lI (nI p), lI (nI (lbN s l set p a)), lI (nI a)] [] M) (s 0 0) 0 (by omega) ?_ ?_
  · refine bX10_leastBy_7 M _ _ _ _ ?_
    rw [kn]
    exact bq_le _ _ rfl rfl (by omega) (by omega) (fun _ => ⟨rfl, rfl⟩) (fun z => by omega)
  · intro a _ ha ih
    refine bX10_leastBy_7 M _ _ _ _ ?_
    obtain ⟨v, e⟩ := ask_at hs hA ha hp
    have h1 := lbN_le hs (l := l) (set := set) (p := p) a
    have h2 := stN_le hs (l := l) (a := a) (b := p)
    rw [kn, e, nI_1, min_nI (by omega) (by omega)]
    refine bq_le _ _ rfl rfl (by omega) (by omega) (fun z => by omega) (fun _ => bq_has _ a rfl rfl hset (by omega) (fun q => ?_) (fun q => ⟨v, ?_⟩))
    · rw [lbN, q] at ih; exact ih
    · rw [lbN, if_pos q] at ih; exact ih
/-- a set under way -/
def RIn (E : Nat → Nat → Bool) (A T r : Nat) : Prop := r < 65536 ∧ (∀ i, A.testBit i = true → r.testBit i = true) ∧ ∀ i, r.testBit i = true → RS E A T i
theorem RIn.add {E : Nat → Nat → Bool} {A T r a b : Nat} (h : RIn E A T r) (hb : b < 16) (ha : r.testBit a = true) (ht : T.testBit b = true) (he : E a b = true) : RIn E A T (r ||| 2 ^ b) := by
  refine ⟨or_lt (k := 16) h.1 (p2_lt hb), fun i hi => ?_, fun i hi => ?_⟩
  · rw [or1_bit, h.2.1 i hi]; rfl
  · rw [or1_bit, Bool.or_eq_true, decide_eq_true_eq] at hi
    rcases hi with hi | rfl
    · exact h.2.2 i hi
    · exact (h.2.2 a ha).step ht he
theorem RIn.fin {E : Nat → Nat → Bool} {A T r n : Nat} (h : RIn E A T r) (hc : ∀ x y, r.testBit x = true → T.testBit y = true → E x y = true → r.testBit y = true) (hn : Is n (RS E A T)) : r = n := by
  refine Is.un (P := RS E A T) (fun i => ⟨h.2.2 i, fun hi => ?_⟩) hn
  exact hi (fun i => r.testBit i = true) h.2.1 (fun a y q1 q2 q3 => hc a y q1 q2 q3)
theorem c_reach (hs : WFV s) (h : VM M s) (hA : ASK M s l) {T n : Nat} (hT : T < 2 ^ 31) (hp : p < s 0 0) (hn : Is n (RS (EB s l) (2 ^ p) T)) : AMp (d + 1) iX10_reach [.ref 77, .int (nI p), .int (nI T)] M (nI n) := by
  have hR := hs.1
  have kn : M 77 0 = nI (s 0 0) := h.1 0 (by decide)
  have i0 : RIn (EB s l) (2 ^ p) T (2 ^ p) := ⟨p2_lt (k := 16) (by omega), fun _ hi => hi, fun i hi => RS.base hi⟩
  refine eX10_reach M _ _ (bX10_reach_0 M _ _ ?_)
  rw [shl1 p (by omega)]
  have key : ∀ f r, 65536 - r ≤ f → RIn (EB s l) (2 ^ p) T r → AX10_reach (d + 1) (fun r M' => some (nI n) = r ∧ M = M') 7 [lR 77, none, lI (nI T), lI (nI r), lI 1, none, none] [] M := by
    intro f
    induction f with
    | zero => intro r hf hr; have := hr.1; omega
    | succ f ihf =>
      intro r hf hr
      refine bX10_reach_7 M _ _ _ ⟨fun z => absurd z (by decide), fun _ => ?_⟩
      refine up_loop (P := fun b => ∀ (r' : Nat) (m : Int32), RIn (EB s l) (2 ^ p) T r' → ((m = 0 ∧ r' = r ∧ ∀ y x, y < b → x < s 0 0 → r.testBit x = true → T.testBit y = true → EB s l x y = true → r.testBit y = true) ∨ (m = 1 ∧ r < r')) → AX10_reach (d + 1) (fun r M' => some (nI n) = r ∧ M = M') 18 [lR 77, none, lI (nI T), lI (nI r'), lI m, lI (nI b), none] [] M) (s 0 0) 0 (by omega) ?_ ?_ r 0 hr (Or.inl ⟨rfl, rfl, fun y x hy => by omega⟩)
      · intro r' m hr' hm
        refine bX10_reach_18 M _ _ _ _ ?_
        rw [kn]
        refine bq_le _ _ rfl rfl (by omega) (by omega) (fun _ => ?_) (fun z => by omega)
        rcases hm with ⟨rfl, rfl, hc⟩ | ⟨rfl, hlt⟩
        · refine bX10_reach_7 M _ _ _ ⟨fun _ => ⟨?_, rfl⟩, fun z => absurd rfl z⟩
          rw [hr'.fin (fun x y q1 q2 q3 => hc y x (EB_lt hs q3).2 (EB_lt hs q3).1 q1 q2 q3) hn]
        · exact ihf r' (by have := hr'.1; omega) hr'
      · intro b _ hb ihb r' m hr' hm
        refine bX10_reach_18 M _ _ _ _ ?_
        rw [kn]
        refine bq_le _ _ rfl rfl (by omega) (by omega) (fun z => by omega) (fun _ => ?_)
        refine up_loop (P := fun a => ∀ (r' : Nat) (m : Int32), RIn (EB s l) (2 ^ p) T r' → ((m = 0 ∧ r' = r ∧ ∀ y x, (y < b ∨ (y = b ∧ x < a)) → x < s 0 0 → r.testBit x = true → T.testBit y = true → EB s l x y = true → r.testBit y = true) ∨ (m = 1 ∧ r < r')) → AX10_reach (d + 1) (fun r M' => some (nI n) = r ∧ M = M') 30 [lR 77, none, lI (nI T), lI (nI r'), lI m, lI (nI b), lI (nI a)] [] M) (s 0 0) 0 (by omega) ?_ ?_ r' m hr' (hm.imp (fun ⟨a1, a2, a3⟩ => ⟨a1, a2, fun y x hy => a3 y x (by omega)⟩) id)
        · intro r' m hr' hm
          refine bX10_reach_30 M _ _ _ _ _ ?_
          rw [kn, nI_1 b]
          exact bq_le _ _ rfl rfl (by omega) (by omega) (fun _ => ihb r' m hr' (hm.imp (fun ⟨a1, a2, a3⟩ => ⟨a1, a2, fun y x hy hx => a3 y x (by omega) hx⟩) id)) (fun z => by omega)
        · intro a _ ha iha r' m hr' hm
          have l31 : r' < 2 ^ 31 := by have := hr'.1; omega
          refine bX10_reach_30 M _ _ _ _ _ ?_
          rw [kn, nI_1 a, or1 (by omega)]
          have skip : (r'.testBit a = true → T.testBit b = true → EB s l a b = true → r'.testBit b = true) → AX10_reach (d + 1) (fun r M' => some (nI n) = r ∧ M = M') 30 [lR 77, none, lI (nI T), lI (nI r'), lI m, lI (nI b), lI (nI (a + 1))] [] M := by
            intro q
            refine iha r' m hr' ?_
            rcases hm with ⟨rfl, rfl, hc⟩ | hm
            · refine Or.inl ⟨rfl, rfl, fun y x hy hx => ?_⟩
              by_cases e : y = b ∧ x = a
              · obtain ⟨rfl, rfl⟩ := e; exact q
              · exact hc y x (by omega) hx
            · exact Or.inr hm
          refine bq_le _ _ rfl rfl (by omega) (by omega) (fun z => by omega) (fun _ => bq_hasn _ b rfl rfl l31 (by omega) (fun q => skip (fun _ _ _ => q)) (fun qb => bq_has _ b rfl rfl hT (by omega) (fun q => skip (fun _ q2 _ => by rw [q] at q2; cases q2)) (fun qt => bq_has _ a rfl rfl l31 (by omega) (fun q => skip (fun q2 _ _ => by rw [q] at q2; cases q2)) (fun qa => (c_isStep hs hA ha hb).i ?_))))
          cases hE : EB s l a b with
          | false => exact ⟨fun z => absurd rfl z, fun _ => skip (fun _ _ q2 => by rw [hE] at q2; cases q2)⟩
          | true =>
            refine ⟨fun _ => iha _ _ (hr'.add (by omega) qa qt hE) (Or.inr ⟨rfl, ?_⟩), fun z => absurd z (by decide)⟩
            have := or_gt qb
            rcases hm with ⟨_, e, _⟩ | ⟨_, e⟩ <;> omega
  exact key 65536 _ (Nat.sub_le _ _) i0
theorem c_joined (hs : WFV s) (h : VM M s) (hA : ASK M s l) {A T n : Nat} (hT : T < 2 ^ 31) (hAl : A < 65536) (hn : Is n (RS (EB s l) A T)) : AMp (d + 2) iX10_joined [.ref 77, .int (nI A), .int (nI T)] M (nI n) := by
  have hR := hs.1
  have kn : M 77 0 = nI (s 0 0) := h.1 0 (by decide)
  have i0 : RIn (EB s l) A T A := ⟨hAl, fun _ hi => hi, fun i hi => RS.base hi⟩
  refine eX10_joined M _ _ (bX10_joined_0 M _ _ ?_)
  have key : ∀ f r, 65536 - r ≤ f → RIn (EB s l) A T r → AX10_joined (d + 2) (fun r M' => some (nI n) = r ∧ M = M') 5 [lR 77, none, lI (nI T), lI (nI r), lI 1, none] [] M := by
    intro f
    induction f with
    | zero => intro r hf hr; have := hr.1; omega
    | succ f ihf =>
      intro r hf hr
      refine bX10_joined_5 M _ _ _ ⟨fun z => absurd z (by decide), fun _ => ?_⟩
      refine up_loop (P := fun b => ∀ (r' : Nat) (m : Int32), RIn (EB s l) A T r' → ((m = 0 ∧ r' = r ∧ ∀ y x, y < b → x < s 0 0 → r.testBit x = true → T.testBit y = true → EB s l x y = true → r.testBit y = true) ∨ (m = 1 ∧ r < r')) → AX10_joined (d + 2) (fun r M' => some (nI n) = r ∧ M = M') 16 [lR 77, none, lI (nI T), lI (nI r'), lI m, lI (nI b)] [] M) (s 0 0) 0 (by omega) ?_ ?_ r 0 hr (Or.inl ⟨rfl, rfl, fun y x hy => by omega⟩)
      · intro r' m hr' hm
        refine bX10_joined_16 M _ _ _ _ ?_
        rw [kn]
        refine bq_le _ _ rfl rfl (by omega) (by omega) (fun _ => ?_) (fun z => by omega)
        rcases hm with ⟨rfl, rfl, hc⟩ | ⟨rfl, hlt⟩
        · refine bX10_joined_5 M _ _ _ ⟨fun _ => ⟨?_, rfl⟩, fun z => absurd rfl z⟩
          rw [hr'.fin (fun x y q1 q2 q3 => hc y x (EB_lt hs q3).2 (EB_lt hs q3).1 q1 q2 q3) hn]
        · exact ihf r' (by have := hr'.1; omega) hr'
      · intro b _ hb ihb r' m hr' hm
        have l31 : r' < 2 ^ 31 := by have := hr'.1; omega
        refine bX10_joined_16 M _ _ _ _ ?_
        rw [kn, nI_1 b, or1 (by omega)]
        have skip : (∀ a, a < s 0 0 → r'.testBit a = true → T.testBit b = true → EB s l a b = true → r'.testBit b = true) → AX10_joined (d + 2) (fun r M' => some (nI n) = r ∧ M = M') 16 [lR 77, none, lI (nI T), lI (nI r'), lI m, lI (nI (b + 1))] [] M := by
          intro q
          refine ihb r' m hr' ?_
          rcases hm with ⟨rfl, rfl, hc⟩ | hm
          · refine Or.inl ⟨rfl, rfl, fun y x hy hx => ?_⟩
            by_cases e : y = b
            · subst e; exact q x hx
            · exact hc y x (by omega) hx
          · exact Or.inr hm
        refine bq_le _ _ rfl rfl (by omega) (by omega) (fun z => by omega) (fun _ => bq_has _ b rfl rfl hT (by omega) (fun q => skip (fun _ _ _ q2 _ => by rw [q] at q2; cases q2)) (fun qt => bq_hasn _ b rfl rfl l31 (by omega) (fun q => skip (fun _ _ _ _ _ => q)) (fun qb => (c_leastBy hs h hA l31 hb).i ?_)))
        have h1 := lbN_le hs (l := l) (set := r') (p := b) (s 0 0)
        have h2 := lbN_far hs (l := l) (set := r') (p := b) (s 0 0)
        refine bq_ne _ 1000000000 rfl rfl (by omega) (by omega) (fun q => ?_) (fun q => skip (fun a ha q1 _ q2 => by rw [h2.mp q a ha q1] at q2; cases q2))
        have : ∃ a, r'.testBit a = true ∧ EB s l a b = true := by
          refine Classical.byContradiction (fun hc => q (h2.mpr (fun a _ q1 => ?_)))
          cases e : EB s l a b with
          | false => rfl
          | true => exact absurd ⟨a, q1, e⟩ hc
        obtain ⟨a, qa, hE⟩ := this
        refine ihb _ _ (hr'.add (by omega) qa qt hE) (Or.inr ⟨rfl, ?_⟩)
        have := or_gt qb
        rcases hm with ⟨_, e, _⟩ | ⟨_, e⟩ <;> omega
  exact key 65536 _ (Nat.sub_le _ _) i0
theorem RS_lt {T x : Nat} (hs : WFV s) (hp : p < s 0 0) (h : RS (EB s l) (2 ^ p) T x) : x < s 0 0 := by
  rcases h.inv with h | ⟨_, a, _, h⟩
  · rw [p2_bit, decide_eq_true_eq] at h; omega
  · exact (EB_lt hs h).2
theorem RS_set (hs : WFV s) (hp : p < s 0 0) (T : Nat) : ∃ n, n < 65536 ∧ Is n (RS (EB s l) (2 ^ p) T) := by
  obtain ⟨n, h1, h2⟩ := Is_ex (RS (EB s l) (2 ^ p) T) 16
  refine ⟨n, h1, h2.cg (fun i => ⟨fun q => q.2, fun q => ⟨?_, q⟩⟩)⟩
  have := RS_lt hs hp q
  have := hs.1
  omega
theorem topS_or (s : VD) : topS s = 31 ∨ (topS s < s 0 0 ∧ (s 0 1).testBit (topS s) = true) := topTo_lt s (s 0 0)
theorem c_holdsBy (hs : WFV s) (h : VM M s) (hA : ASK M s l) {T : Nat} (hT : T < 2 ^ 31) (hp : p < s 0 0) {x : Int32} (hx : (x = 1 ∧ HS s l p T) ∨ (x = 0 ∧ ¬ HS s l p T)) : AMp (d + 2) iX10_holdsBy [.ref 77, .int (nI p), .int (nI T)] M x := by
  have hR := hs.1
  have kl : M 77 1 = nI (s 0 1) := h.1 1 (by decide)
  obtain ⟨n, hn, hI⟩ := RS_set (l := l) hs hp T
  have no : ¬ HS s l p T → (some (0 : Int32) : Option Int32) = some 0 → some x = some 0 ∧ M = M := fun q _ => by
    rcases hx with ⟨_, q2⟩ | ⟨rfl, _⟩
    · exact absurd q2 q
    · exact ⟨rfl, rfl⟩
  refine eX10_holdsBy M _ _ (bX10_holdsBy_0 M _ _ ?_)
  rw [kl]
  have hlv := hs.live
  refine bq_has _ p rfl rfl (by omega) (by omega) (fun q => no (fun q2 => by rw [q2.1] at q; cases q) rfl) (fun qp => (c_reach hs h hA hT hp hI).i ((c_topOf hs h).i ?_))
  rcases topS_or s with e | ⟨e1, e2⟩
  · rw [e]
    refine ⟨fun _ => no (fun q2 => q2.2.1 e) rfl, fun z => absurd (has_m1 (by omega)) z⟩
  · rw [tvI_n (by omega)]
    refine bq_has _ (topS s) rfl rfl (by omega) (by omega) (fun q => no (fun q2 => by rw [(hI _).mpr q2.2.2] at q; cases q) rfl) (fun q => ?_)
    rcases hx with ⟨rfl, _⟩ | ⟨_, q2⟩
    · exact ⟨rfl, rfl⟩
    · exact absurd ⟨qp, by omega, (hI _).mp q⟩ q2
theorem HS_x (s l : VD) (p T : Nat) : ∃ x : Int32, (x = 1 ∧ HS s l p T) ∨ (x = 0 ∧ ¬ HS s l p T) := by
  by_cases h : HS s l p T
  · exact ⟨1, Or.inl ⟨rfl, h⟩⟩
  · exact ⟨0, Or.inr ⟨rfl, h⟩⟩
theorem c_holdsNow (hs : WFV s) (h : VM M s) (hA : ASK M s l) {o : Nat} (ho : o < s 0 2) {x : Int32} (hx : (x = 1 ∧ HS s l (s 6 o) (s 7 o)) ∨ (x = 0 ∧ ¬ HS s l (s 6 o) (s 7 o))) : AMp (d + 3) iX10_holdsNow [.ref 77, .int (nI o)] M x := by
  have hO := hs.2.2.1
  have vi : vp_in (nI o) 12 := vp_in_nI (by omega) (by decide)
  have k6 : M 99 o = nI (s 6 o) := h.2 6 o (by decide) (by decide) (show o < 12 by omega)
  have k7 : M 101 o = nI (s 7 o) := h.2 7 o (by decide) (by decide) (show o < 12 by omega)
  refine eX10_holdsNow M _ (bX10_holdsNow_0 M _ ⟨vi, vi, ?_⟩)
  rw [ix_nI (by omega), k6, k7]
  have := hs.sworn ho
  refine (c_holdsBy hs h hA (by omega) (hs.2.2.2.2.2.2.2 o ho).1 hx).i ⟨?_, rfl, rfl⟩
  rcases hx with ⟨q, _⟩ | ⟨q, _⟩
  · exact Or.inr q
  · exact Or.inl q
/-- the OATHS that HOLD -/
def HO (s l : VD) (o : Nat) : Prop := o < s 0 2 ∧ HS s l (s 6 o) (s 7 o)
theorem HO_set (s l : VD) (hs : WFV s) : ∃ n, n < 4096 ∧ Is n (HO s l) := by
  obtain ⟨n, h1, h2⟩ := Is_ex (HO s l) 12
  refine ⟨n, h1, h2.cg (fun i => ⟨fun q => q.2, fun q => ⟨?_, q⟩⟩)⟩
  have := q.1
  have := hs.2.2.1
  omega
theorem c_holding {w : Nat} (hs : WFV s) (hl : WFL l) (h : VM M s) (hw : w ≤ 1) (hL : LM w M l) {n : Nat} (hn : Is n (HO s l)) : AMi (d + 5) iX10_holding [.ref 77, .int (nI w)] M (fun r M' => r = nI n ∧ ∀ k, k ≠ 96 → k ≠ 97 → k ≠ 98 → M' k = M k) := by
  have hO := hs.2.2.1
  refine eX10_holding M _ (bX10_holding_0 M _ ((c_laysSteps hs hl h hw hL).mono (fun M1 h1 => ?_)))
  have h' : VM M1 s := h.off h1.2
  have kO : M1 77 34 = nI (s 0 2) := h'.1 2 (by decide)
  refine up_loop (P := fun o => ∀ r, Is r (fun i => i < o ∧ HO s l i) → AX10_holding (d + 5) (fun r M' => ∃ x, r = some x ∧ x = nI n ∧ ∀ k, k ≠ 96 → k ≠ 97 → k ≠ 98 → M' k = M k) 9 [lR 77, none, lI (nI r), lI (nI o)] [] M1) (s 0 2) 0 (by omega) ?_ ?_ 0 (fun i => by simp)
  · intro r hr
    refine bX10_holding_9 M1 _ _ ?_
    rw [kO]
    refine bq_le _ _ rfl rfl (by omega) (by omega) (fun _ => ⟨_, rfl, ?_, h1.2⟩) (fun z => by omega)
    rw [Is.un (hr.cg (fun i => ⟨fun q => q.2, fun q => ⟨q.1, q⟩⟩)) hn]
  · intro o _ ho ih r hr
    refine bX10_holding_9 M1 _ _ ?_
    rw [kO, nI_1 o, or1 (by omega)]
    refine bq_le _ _ rfl rfl (by omega) (by omega) (fun z => by omega) (fun _ => ?_)
    obtain ⟨x, hx⟩ := HS_x s l (s 6 o) (s 7 o)
    refine (c_holdsNow hs h' h1.1 ho hx).i ?_
    rcases hx with ⟨rfl, q⟩ | ⟨rfl, q⟩
    · refine ⟨fun z => absurd z (by decide), fun _ => ih _ (fun i => ?_)⟩
      rw [or1_bit, Bool.or_eq_true, hr i, decide_eq_true_eq]
      constructor
      · rintro (⟨a, b⟩ | rfl)
        · exact ⟨by omega, b⟩
        · exact ⟨by omega, ho, q⟩
      · rintro ⟨a, b⟩
        by_cases e : o = i
        · exact Or.inr e
        · exact Or.inl ⟨by omega, b⟩
    · refine ⟨fun _ => ih _ (fun i => ?_), fun z => absurd rfl z⟩
      rw [hr i]
      constructor
      · rintro ⟨a, b⟩; exact ⟨by omega, b⟩
      · rintro ⟨a, b⟩
        refine ⟨?_, b⟩
        by_cases e : i = o
        · subst e; exact absurd b.2 q
        · omega
end MR
