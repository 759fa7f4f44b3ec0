/-! what the small methods answer -/
def hasV (s k : Int32) : Int32 := (s >>> (k &&& 31)) &&& 1
def inV (v lo hi : Int32) : Int32 := if lo ≤ v ∧ v ≤ hi then 1 else 0
def minV (a b : Int32) : Int32 := if a < b then a else b
def isPV (n p : Int32) : Int32 := if 0 ≤ p ∧ p < n then 1 else 0
def livV (n live p : Int32) : Int32 := if 0 ≤ p ∧ p < n ∧ hasV live p = 1 then 1 else 0
def nxV (s a : Int32) : Int32 := (s - a) &&& a
theorem and1 (x : Int32) : x &&& 1 = 0 ∨ x &&& 1 = 1 := by
  obtain ⟨j, hj, e⟩ := pk_andE x (m := 1) 1 (by decide)
  rw [e]
  have : j = 0 ∨ j = 1 := by omega
  rcases this with rfl | rfl
  · exact Or.inl (by decide)
  · exact Or.inr (by decide)
theorem hasV_01 (s k : Int32) : hasV s k = 0 ∨ hasV s k = 1 := and1 _
theorem hasV_n1 {s k : Int32} : ¬ hasV s k = 0 ↔ hasV s k = 1 := by
  rcases hasV_01 s k with h | h <;> rw [h] <;> decide
theorem hasV_n0 {s k : Int32} : ¬ hasV s k = 1 ↔ hasV s k = 0 := by
  rcases hasV_01 s k with h | h <;> rw [h] <;> decide
theorem inV_1 {v lo hi : Int32} : ¬ inV v lo hi = 0 ↔ lo ≤ v ∧ v ≤ hi := by
  rw [inV]; split <;> simp_all
theorem inV_0 {v lo hi : Int32} : inV v lo hi = 0 ↔ ¬ (lo ≤ v ∧ v ≤ hi) := by
  rw [inV]; split <;> simp_all
theorem isPV_1 {n p : Int32} : ¬ isPV n p = 0 ↔ 0 ≤ p ∧ p < n := by
  rw [isPV]; split <;> simp_all
theorem isPV_0 {n p : Int32} : isPV n p = 0 ↔ ¬ (0 ≤ p ∧ p < n) := by
  rw [isPV]; split <;> simp_all
theorem livV_1 {n l p : Int32} : ¬ livV n l p = 0 ↔ 0 ≤ p ∧ p < n ∧ hasV l p = 1 := by
  rw [livV]; split <;> simp_all
theorem livV_0 {n l p : Int32} : livV n l p = 0 ↔ ¬ (0 ≤ p ∧ p < n ∧ hasV l p = 1) := by
  rw [livV]; split <;> simp_all
theorem inV_01 (v lo hi : Int32) : inV v lo hi = 0 ∨ inV v lo hi = 1 := by rw [inV]; split <;> simp
theorem isPV_01 (n p : Int32) : isPV n p = 0 ∨ isPV n p = 1 := by rw [isPV]; split <;> simp
theorem livV_01 (n l p : Int32) : livV n l p = 0 ∨ livV n l p = 1 := by rw [livV]; split <;> simp
section P1
variable {d : Nat} {M : Mem}
theorem p_X10_in (a b c : Int32) : AMp d iX10_in [.int a, .int b, .int c] M (inV a b c) := by
  refine eX10_in M a b c (bX10_in_0 M a b c ⟨fun h => ⟨?_, rfl⟩, fun h => ⟨fun h2 => ⟨?_, rfl⟩, fun h2 => ⟨?_, rfl⟩⟩⟩)
  · rw [inV, if_neg (fun z => absurd z.1 (Int32.not_le.mpr h))]
  · rw [inV, if_neg (fun z => absurd z.2 (Int32.not_le.mpr h2))]
  · rw [inV, if_pos ⟨Int32.not_lt.mp h, Int32.not_lt.mp h2⟩]
theorem p_X9_within (a b c : Int32) : AMp d iX9_within [.int a, .int b, .int c] M (inV a b c) := by
  refine eX9_within M a b c (bX9_within_0 M a b c ⟨fun h => ⟨?_, rfl⟩, fun h => ⟨fun h2 => ⟨?_, rfl⟩, fun h2 => ⟨?_, rfl⟩⟩⟩)
  · rw [inV, if_neg (fun z => absurd z.1 (Int32.not_le.mpr h))]
  · rw [inV, if_neg (fun z => absurd z.2 (Int32.not_le.mpr h2))]
  · rw [inV, if_pos ⟨Int32.not_lt.mp h, Int32.not_lt.mp h2⟩]
theorem p_X10_min (a b : Int32) : AMp d iX10_min [.int a, .int b] M (minV a b) := by
  refine eX10_min M a b (bX10_min_0 M a b ⟨fun h => ⟨?_, rfl⟩, fun h => ⟨?_, rfl⟩⟩)
  · rw [minV, if_neg (Int32.not_lt.mpr h)]
  · rw [minV, if_pos (Int32.not_le.mp h)]
theorem p_X10_has (a b : Int32) : AMp d iX10_has [.int a, .int b] M (hasV a b) := by
  refine eX10_has M a b (bX10_has_0 M a b ⟨fun h => ⟨?_, rfl⟩, fun h => ⟨congrArg some h, rfl⟩⟩)
  rw [hasV_n0.mp h]
theorem p_X9_has (a b : Int32) : AMp d iX9_has [.int a, .int b] M (hasV a b) := by
  refine eX9_has M a b (bX9_has_0 M a b ⟨fun h => ⟨congrArg some h, rfl⟩, fun h => ⟨?_, rfl⟩⟩)
  rw [hasV_n1.mp h]
theorem p_X9_nextSubset (a b : Int32) : AMp d iX9_nextSubset [.int a, .int b] M (nxV a b) := eX9_nextSubset M a b (bX9_nextSubset_0 M a b ⟨rfl, rfl⟩)
theorem p_X10_isPerson (a : Int32) : AMp d iX10_isPerson [.ref 77, .int a] M (isPV (M 77 0) a) := by
  refine eX10_isPerson M a (bX10_isPerson_0 M a ⟨fun h => ⟨?_, rfl⟩, fun h => ⟨fun h2 => ⟨?_, rfl⟩, fun h2 => ⟨?_, rfl⟩⟩⟩)
  · rw [isPV, if_neg (fun z => absurd z.1 (Int32.not_le.mpr h))]
  · rw [isPV, if_neg (fun z => absurd z.2 (Int32.not_lt.mpr h2))]
  · rw [isPV, if_pos ⟨Int32.not_lt.mp h, Int32.not_le.mp h2⟩]
theorem p_X10_isOath (a : Int32) : AMp d iX10_isOath [.ref 77, .int a] M (isPV (M 77 34) a) := by
  refine eX10_isOath M a (bX10_isOath_0 M a ⟨fun h => ⟨?_, rfl⟩, fun h => ⟨fun h2 => ⟨?_, rfl⟩, fun h2 => ⟨?_, rfl⟩⟩⟩)
  · rw [isPV, if_neg (fun z => absurd z.1 (Int32.not_le.mpr h))]
  · rw [isPV, if_neg (fun z => absurd z.2 (Int32.not_lt.mpr h2))]
  · rw [isPV, if_pos ⟨Int32.not_lt.mp h, Int32.not_le.mp h2⟩]
theorem p_X8_isPerson (a : Int32) {v : Nat} (h_v : isV v) : AMp d iX8_isPerson [.ref v, .int a] M (isPV (M v 7) a) := by
  refine eX8_isPerson M a (bX8_isPerson_0 h_v M a ⟨fun h => ⟨?_, rfl⟩, fun h => ⟨fun h2 => ⟨?_, rfl⟩, fun h2 => ⟨?_, rfl⟩⟩⟩)
  · rw [isPV, if_neg (fun z => absurd z.1 (Int32.not_le.mpr h))]
  · rw [isPV, if_neg (fun z => absurd z.2 (Int32.not_lt.mpr h2))]
  · rw [isPV, if_pos ⟨Int32.not_lt.mp h, Int32.not_le.mp h2⟩]
theorem p_X8_isOath (a : Int32) {v : Nat} (h_v : isV v) : AMp d iX8_isOath [.ref v, .int a] M (isPV (M v 9) a) := by
  refine eX8_isOath M a (bX8_isOath_0 h_v M a ⟨fun h => ⟨?_, rfl⟩, fun h => ⟨fun h2 => ⟨?_, rfl⟩, fun h2 => ⟨?_, rfl⟩⟩⟩)
  · rw [isPV, if_neg (fun z => absurd z.1 (Int32.not_le.mpr h))]
  · rw [isPV, if_neg (fun z => absurd z.2 (Int32.not_lt.mpr h2))]
  · rw [isPV, if_pos ⟨Int32.not_lt.mp h, Int32.not_le.mp h2⟩]
theorem p_X10_areYears (a : Int32) : AMp d iX10_areYears [.int a] M (inV a 1 60) := by
  refine eX10_areYears M a (bX10_areYears_0 M a ⟨fun h => ⟨?_, rfl⟩, fun h => ⟨fun h2 => ⟨?_, rfl⟩, fun h2 => ⟨?_, rfl⟩⟩⟩)
  · rw [inV, if_neg]
    rintro ⟨z, -⟩
    rw [Int32.le_iff_toInt_le] at h z
    have e1 : (1 : Int32).toInt = 1 := by decide
    have e0 : (0 : Int32).toInt = 0 := by decide
    omega
  · rw [inV, if_neg]
    rintro ⟨-, z⟩
    rw [Int32.le_iff_toInt_le] at h2 z
    have e1 : (60 : Int32).toInt = 60 := by decide
    have e0 : (61 : Int32).toInt = 61 := by decide
    omega
  · rw [inV, if_pos]
    rw [Int32.le_iff_toInt_le] at h h2
    rw [Int32.le_iff_toInt_le, Int32.le_iff_toInt_le]
    have e1 : (1 : Int32).toInt = 1 := by decide
    have e0 : (0 : Int32).toInt = 0 := by decide
    have e3 : (60 : Int32).toInt = 60 := by decide
    have e2 : (61 : Int32).toInt = 61 := by decide
    omega
end P1
/-- how many of the lowest sixteen bits -/
def bitsTo (s : Int32) : Nat → Int32
  | 0 => 0
  | k + 1 => bitsTo s k + hasV s (nI k)
def bitsV (s : Int32) : Int32 := bitsTo s 16
theorem p_X10_bits {d : Nat} {M : Mem} (a : Int32) : AMp d iX10_bits [.int a] M (bitsV a) := by
  refine eX10_bits M a (bX10_bits_0 M a ?_)
  refine up_loop (P := fun k => AX10_bits d _ 4 [lI a, lI (bitsTo a k), lI (nI k)] [] M) 16 0 (by omega) ?_ ?_
  · exact bX10_bits_4 M a _ _ ⟨fun _ => ⟨rfl, rfl⟩, fun h => absurd (by decide) h⟩
  · intro i _ hi h
    refine bX10_bits_4 M a _ _ ⟨fun h2 => absurd h2 (by rw [show (16 : Int32) = nI 16 by decide]; exact nI_ge hi (by decide)), fun _ => ?_⟩
    rw [nI_1]
    exact h
