section P2
variable {d : Nat} {M : Mem}
theorem p_X10_lives (a : Int32) : AMp (d + 1) iX10_lives [.ref 77, .int a] M (livV (M 77 0) (M 77 1) a) := by
  refine eX10_lives M a (bX10_lives_0 M a ⟨fun h => ⟨?_, rfl⟩, fun h => ⟨fun h2 => ⟨?_, rfl⟩, fun h2 => ⟨?_, rfl⟩⟩⟩)
  · rw [livV, if_neg (fun z => isPV_0.mp h ⟨z.1, z.2.1⟩)]
  · rw [livV, if_neg (fun z => absurd (h2.symm.trans z.2.2) (by decide))]
  · rw [livV, if_pos ⟨(isPV_1.mp h).1, (isPV_1.mp h).2, hasV_n1.mp h2⟩]
theorem p_X8_lives (a : Int32) {v : Nat} (h_v : isV v) : AMp (d + 1) iX8_lives [.ref v, .int a] M (livV (M v 7) (M v 8) a) := by
  refine eX8_lives M a (bX8_lives_0 h_v M a ⟨fun h => ⟨?_, rfl⟩, fun h => ⟨fun h2 => ⟨?_, rfl⟩, fun h2 => ⟨?_, rfl⟩⟩⟩)
  · rw [livV, if_neg (fun z => isPV_0.mp h ⟨z.1, z.2.1⟩)]
  · rw [livV, if_neg (fun z => absurd (h2.symm.trans z.2.2) (by decide))]
  · rw [livV, if_pos ⟨(isPV_1.mp h).1, (isPV_1.mp h).2, hasV_n1.mp h2⟩]
/-- the letter's number, -1: none -/
def factV (c : Int32) : Int32 := if c = 97 then 0 else if c = 105 then 1 else if c = 121 then 2 else if c = 104 then 3 else if c = 107 then 4 else if c = 113 then 5 else if c = 98 then 6 else if c = 106 then 7 else if c = 122 then 8 else if c = 108 then 9 else if c = 116 then 10 else if c = 114 then 11 else -1
theorem factV_out {c : Int32} (h : c.toInt < 97 ∨ 122 < c.toInt) : factV c = -1 := by
  have key : ∀ k : Int32, 97 ≤ k.toInt → k.toInt ≤ 122 → ¬ c = k := by
    rintro k h1 h2 rfl
    omega
  unfold factV
  rw [if_neg (key 97 (by decide) (by decide)), if_neg (key 105 (by decide) (by decide)), if_neg (key 121 (by decide) (by decide)), if_neg (key 104 (by decide) (by decide)), if_neg (key 107 (by decide) (by decide)), if_neg (key 113 (by decide) (by decide)), if_neg (key 98 (by decide) (by decide)), if_neg (key 106 (by decide) (by decide)), if_neg (key 122 (by decide) (by decide)), if_neg (key 108 (by decide) (by decide)), if_neg (key 116 (by decide) (by decide)), if_neg (key 114 (by decide) (by decide))]
theorem p_X10_factOf (a : Int32) : AMp d iX10_factOf [.int a] M (factV a) := by
  refine eX10_factOf M a (bX10_factOf_0 M a ⟨fun h => ⟨congrArg some (factV_out h), rfl⟩, ?_⟩)
  repeat' apply And.intro
  all_goals (intro h; subst h; exact ⟨by decide, rfl⟩)
/-- the sign's number, -1: none -/
def signV (c : Int32) : Int32 := if c = 43 then 2 else if c = 45 then 3 else if c = 42 then 4 else if c = 47 then 5 else if c = 37 then 6 else -1
theorem p_X10_sumSign (a : Int32) : AMp d iX10_sumSign [.int a] M (signV a) := by
  refine eX10_sumSign M a (bX10_sumSign_0 M a ⟨fun h1 => ⟨fun h2 => ⟨fun h3 => ⟨fun h4 => ⟨fun h5 => ⟨?_, rfl⟩, fun h => ⟨?_, rfl⟩⟩, fun h => ⟨?_, rfl⟩⟩, fun h => ⟨?_, rfl⟩⟩, fun h => ⟨?_, rfl⟩⟩, fun h => ⟨?_, rfl⟩⟩)
  · rw [signV, if_neg h1, if_neg h2, if_neg h3, if_neg h4, if_neg h5]
  all_goals (subst h; decide)
/-- a sign reckoned: the class's signs -/
def refV (g r : Int32) : Int32 := if r = 0 ∧ (g = 47 ∨ g = 37) then 1 else 0
def combV (g x y : Int32) : Int32 := if g = 43 then x + y else if g = 45 then x - y else if g = 42 then x * y else if g = 47 then (if y = 0 then 0 else x / y) else if g = 37 then (if y = 0 then 0 else x - x / y * y) else if g = 60 then (if x < y then 1 else 0) else if g = 62 then (if y < x then 1 else 0) else (if x = y then 1 else 0)
theorem p_X2_isRefused (a b : Int32) : AMp d iX2_isRefused [.int a, .int b] M (refV a b) := by
  refine eX2_isRefused M a b (bX2_isRefused_0 M a b ⟨fun h => ⟨?_, rfl⟩, fun h => ⟨fun h2 => ⟨?_, rfl⟩, fun h2 => ⟨fun h3 => ⟨?_, rfl⟩, fun h3 => ⟨?_, rfl⟩⟩⟩⟩)
  · rw [refV, if_neg (fun z => h z.1)]
  · rw [refV, if_pos ⟨h, Or.inl h2⟩]
  · rw [refV, if_neg (fun z => z.2.elim h2 h3)]
  · rw [refV, if_pos ⟨h, Or.inr h3⟩]
theorem p_X2_combined (a b c : Int32) : AMp d iX2_combined [.int a, .int b, .int c] M (combV a b c) := by
  refine eX2_combined M a b c (bX2_combined_0 M a b c ⟨fun h => ⟨fun h2 => ⟨h2, ?_, rfl⟩, fun h2 => ⟨?_, rfl⟩⟩, fun h => ⟨?_, rfl⟩, fun h => ⟨?_, rfl⟩, fun h => ⟨?_, rfl⟩, fun h => ⟨fun h2 => ⟨h2, ?_, rfl⟩, fun h2 => ⟨?_, rfl⟩⟩, fun h => ⟨fun h2 => ⟨?_, rfl⟩, fun h2 => ⟨?_, rfl⟩⟩, fun h => ⟨fun h2 => ⟨?_, rfl⟩, fun h2 => ⟨?_, rfl⟩⟩, fun h => ⟨fun h2 => ⟨?_, rfl⟩, fun h2 => ⟨?_, rfl⟩⟩⟩)
  · subst h; show some (if c = 0 then 0 else _) = _; rw [if_neg h2]
  · subst h; show some (if c = 0 then 0 else _) = _; rw [if_pos h2]
  · subst h; rfl
  · subst h; rfl
  · subst h; rfl
  · subst h; show some (if c = 0 then 0 else _) = _; rw [if_neg h2]
  · subst h; show some (if c = 0 then 0 else _) = _; rw [if_pos h2]
  · subst h; show some (if b < c then 1 else 0) = _; rw [if_neg (Int32.not_lt.mpr h2)]
  · subst h; show some (if b < c then 1 else 0) = _; rw [if_pos (Int32.not_le.mp h2)]
  · subst h; show some (if c < b then 1 else 0) = _; rw [if_neg (Int32.not_lt.mpr h2)]
  · subst h; show some (if c < b then 1 else 0) = _; rw [if_pos (Int32.not_le.mp h2)]
  · obtain ⟨q1, q2, q3, q4, q5, q6, q7⟩ := h
    rw [combV, if_neg q3, if_neg q4, if_neg q2, if_neg q5, if_neg q1, if_neg q6, if_neg q7, if_neg h2]
  · obtain ⟨q1, q2, q3, q4, q5, q6, q7⟩ := h
    rw [combV, if_neg q3, if_neg q4, if_neg q2, if_neg q5, if_neg q1, if_neg q6, if_neg q7, if_pos h2]
/-- Integer.bitCount, as the JDK reckons it -/
def ushV (x k : Int32) : Int32 := (Int32.toUInt32 x >>> (Int32.toUInt32 k &&& Int32.toUInt32 31)).toInt32
def bcV (x : Int32) : Int32 :=
  let a := x - (ushV x 1 &&& 1431655765)
  let b := (a &&& 858993459) + (ushV a 2 &&& 858993459)
  let c := (b + ushV b 4) &&& 252645135
  let e := c + ushV c 8
  let f := e + ushV e 16
  f &&& 63
theorem p_J6_bitCount (a : Int32) : AMp d iJ6_bitCount_0f7a4 [.int a] M (bcV a) := eJ6_bitCount_0f7a4 M a (bJ6_bitCount_0f7a4_0 M a ⟨rfl, rfl⟩)
theorem isV_1 : isV 1 := Or.inl rfl
theorem isV_12 : isV 12 := Or.inr (Or.inl rfl)
theorem isV_23 : isV 23 := Or.inr (Or.inr rfl)
theorem isA_37 : isA 37 := Or.inl rfl
theorem isA_45 : isA 45 := Or.inr (Or.inl rfl)
theorem isA_53 : isA 53 := Or.inr (Or.inr rfl)
end P2
