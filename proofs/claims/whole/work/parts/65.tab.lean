/-! the class reads -/
theorem fv_eq (w a : Nat) : (-1000 : Int32) * nI w - nI a = -(nI (1000 * w + a)) := by
  rw [← nI_add, ← pk_mul, Int32.neg_add, Int32.sub_eq_add_neg, show nI 1000 = (1000 : Int32) from rfl, Int32.neg_mul, Int32.sub_eq_add_neg]
theorem fv_neg {e : Nat} (h0 : 0 < e) (h1 : e < 6000) : -(nI e) < 0 := by
  have := pk_sneg (a := 0) (b := e) (by omega) h0
  rwa [nI_0, Int32.zero_sub] at this
theorem fv_ne0 {e : Nat} (h0 : 0 < e) (h1 : e < 6000) : ¬ -(nI e) = 0 := fun z => absurd (fv_neg h0 h1) (by rw [z]; decide)
def sgN (i c : Nat) : Bool := (([[110, 103, 120, 112], [103, 112], [91], [48, 49, 50, 51, 52, 53, 54, 55, 56, 57], [97, 105, 121, 104, 107, 113, 98, 106, 122, 108, 116, 114], [42, 47, 37], [43, 45], [33], [40], [60, 62, 61], [38], [124]] : List (List Nat)).getD i []).contains c
theorem ix_st : ∀ i, i < 12 → ∀ c, c < 256 → ((ixV i (Int32.toUInt32 (nI c) % 65536).toInt32 < 0) ↔ sgN i c = false) := by decide +kernel
theorem ix_let : ∀ c, c < 256 → letN c < 12 → ixV 4 (Int32.toUInt32 (nI c) % 65536).toInt32 = nI (letN c) := by decide +kernel
theorem st_300 : ∀ i, i < 12 → sgN i 300 = false := by decide +kernel
theorem st_eq : ∀ c, c ≤ 300 → sgN 2 c = decide (c = 91) ∧ sgN 3 c = dgN c ∧ sgN 4 c = decide (letN c < 12) ∧ sgN 5 c = mulN c ∧ sgN 6 c = addN c ∧ sgN 7 c = decide (c = 33) ∧ sgN 8 c = decide (c = 40) ∧ sgN 9 c = decide (c = 60 ∨ c = 62 ∨ c = 61) ∧ sgN 10 c = decide (c = 38) ∧ sgN 11 c = decide (c = 124) ∧ sgN 0 c = decide (c = 110 ∨ c = 103 ∨ c = 120 ∨ c = 112) ∧ sgN 1 c = decide (c = 103 ∨ c = 112) := by decide +kernel
