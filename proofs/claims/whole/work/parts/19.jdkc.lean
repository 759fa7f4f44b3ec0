/-! String.indexOf over the program's own texts -/
def ixF (c : Int32) : List Int32 → Nat → Int32
  | [], _ => -1
  | b :: l, k => if b = c then nI k else ixF c l (k + 1)
/-- indexOf: the place of a sign in text i -/
def ixV (i : Nat) (c : Int32) : Int32 := ixF c (strB i) 0
theorem strB_ok : ∀ i, i < strT.length → ∀ b ∈ strB i, (0 ≤ b ∧ b ≤ 127) := by decide +kernel
section PJ
variable {d : Nat} {M : Mem} {i : Nat}
theorem p_coder (hi : i < strT.length) : AMp d iJ0_coder_7d493 [.ref (1000 + i)] M 0 := eJ0_coder_7d493 M (bJ0_coder_7d493_0 hi M ⟨fun h => absurd h (by decide), fun _ => ⟨rfl, rfl⟩⟩)
theorem p_isLatin1 (hi : i < strT.length) : AMp d iJ0_isLatin1_aae02 [.ref (1000 + i)] M 1 := eJ0_isLatin1_aae02 M (bJ0_isLatin1_aae02_0 hi M ⟨fun h => absurd h (by decide), fun _ => ⟨fun h => absurd rfl h, fun _ => ⟨rfl, rfl⟩⟩⟩)
theorem p_length (hi : i < strT.length) : AMp (d + 1) iJ0_length_8abf5 [.ref (1000 + i)] M (nI (strB i).length) := by
  refine eJ0_length_8abf5 M (bJ0_length_8abf5_0 hi M ((p_coder hi).i ⟨?_, rfl⟩))
  rw [sb_shr0]
theorem p_canEncode (c : Int32) : AMp d iJ1_canEncode_9a6ad [.int c] M (inV c 0 255) := by
  refine eJ1_canEncode_9a6ad M c (bJ1_canEncode_9a6ad_0 M c ⟨fun h => ⟨?_, rfl⟩, fun h => ⟨fun h2 => ⟨?_, rfl⟩, fun h2 => ⟨?_, rfl⟩⟩⟩)
  · rw [inV, if_neg (fun z => absurd z.1 (Int32.not_le.mpr h))]
  · rw [inV, if_neg (fun z => absurd z.2 (Int32.not_le.mpr h2))]
  · rw [inV, if_pos ⟨Int32.not_lt.mp h, Int32.not_lt.mp h2⟩]
theorem p_indexOfChar (hi : i < strT.length) (c : Int32) : AMp d iJ1_indexOfChar_4cfef [.ref (2000 + i), .int c, .int 0, .int (nI (strB i).length)] M (ixV i c.toInt8.toInt32) := by
  have hL := (strL_eq i hi).2
  refine eJ1_indexOfChar_4cfef M _ _ _ (bJ1_indexOfChar_4cfef_0 hi M _ _ _ ?_)
  have key : ∀ (l : List Int32) (k : Nat), (strB i).drop k = l → k ≤ (strB i).length → AJ1_indexOfChar_4cfef d (fun r M' => some (ixF c.toInt8.toInt32 l k) = r ∧ M = M') 7 [lR (2000 + i), none, none, lI (nI (strB i).length), lI c.toInt8.toInt32, lI (nI k)] [] M := by
    intro l
    induction l with
    | nil =>
      intro k hk hkl
      have q : (strB i).length ≤ k := List.drop_eq_nil_iff.mp hk
      exact bJ1_indexOfChar_4cfef_7 hi M _ _ _ ⟨fun _ => ⟨rfl, rfl⟩, fun h => absurd (nI_le q (by omega)) h⟩
    | cons b l ih =>
      intro k hk hkl
      obtain ⟨h1, h2, h3, h4⟩ := sc_dropC hk
      refine bJ1_indexOfChar_4cfef_7 hi M _ _ _ ⟨fun h => absurd h (nI_ge h1 (by omega)), fun _ => ⟨vp_in_nI h1 (by omega), ?_⟩⟩
      rw [ix_nI (n := k) (by omega), h2, nI_1]
      refine ⟨fun h => ?_, fun h => ⟨?_, rfl⟩⟩
      · have := ih (k + 1) h3 h1
        rw [ixF, if_neg h]
        exact this
      · rw [ixF, if_pos h]
  exact key (strB i) 0 rfl (Nat.zero_le _)
theorem ixF_out {c : Int32} : ∀ (l : List Int32) (k : Nat), (∀ b ∈ l, ¬ b = c) → ixF c l k = -1
  | [], _, _ => rfl
  | b :: l, k, h => by rw [ixF, if_neg (h b List.mem_cons_self)]; exact ixF_out l (k + 1) (fun x hx => h x (List.mem_cons_of_mem _ hx))
theorem ixF_in {c c2 : Int32} : ∀ (l : List Int32) (k : Nat), (∀ b ∈ l, (b = c ↔ b = c2)) → ixF c l k = ixF c2 l k
  | [], _, _ => rfl
  | b :: l, k, h => by
    rw [ixF, ixF, ixF_in l (k + 1) (fun x hx => h x (List.mem_cons_of_mem _ hx))]
    by_cases q : b = c
    · rw [if_pos q, if_pos ((h b List.mem_cons_self).mp q)]
    · rw [if_neg q, if_neg (fun z => q ((h b List.mem_cons_self).mpr z))]
theorem i8_n : ∀ n, n < 256 → ((nI n).toInt8.toInt32 = nI n ∨ ((nI n).toInt8.toInt32 < 0 ∧ 128 ≤ n)) := by decide +kernel
theorem i8_small (n : Nat) (hn : n < 256) (m : Nat) (hm : m < 128) : nI m = (nI n).toInt8.toInt32 ↔ nI m = nI n := by
  rcases i8_n n hn with h | ⟨h1, h2⟩
  · rw [h]
  · constructor
    · intro e; rw [← e] at h1; exact absurd h1 (nI_pos (by omega))
    · intro e; have := (nI_eq (by omega) (by omega)).mp e; omega
theorem strB_n (hi : i < strT.length) {b : Int32} (hb : b ∈ strB i) : ∃ m, m < 128 ∧ b = nI m := by
  obtain ⟨h1, h2⟩ := strB_ok i hi b hb
  obtain ⟨m, hm, e⟩ := nI_of2 (x := b) (M := 127) (n := 127) (by decide) (Int32.not_lt.mpr h1) h2
  exact ⟨m, by omega, e⟩
theorem p_indexOf4 (hi : i < strT.length) (c : Int32) : AMp (d + 1) iJ1_indexOf_4cfef [.ref (2000 + i), .int c, .int 0, .int (nI (strB i).length)] M (ixV i c) := by
  have hL := (strL_eq i hi).2
  refine eJ1_indexOf_4cfef M _ _ _ (bJ1_indexOf_4cfef_0 hi M _ _ _ ((p_canEncode c).i ⟨fun h => ?_, fun h => ⟨?_, rfl⟩⟩))
  · rw [if_neg (show ¬ (0 : Int32) < 0 by decide), if_neg Int32.lt_irrefl]
    have hc := inV_1.mp h
    obtain ⟨n, hn, e⟩ := nI_of2 (x := c) (M := 255) (n := 255) (by decide) (Int32.not_lt.mpr hc.1) hc.2
    have e2 : ixV i c.toInt8.toInt32 = ixV i c := ixF_in _ _ (fun b hb => by
      obtain ⟨m, hm, eb⟩ := strB_n hi hb
      rw [eb, e]
      exact i8_small n (by omega) m hm)
    refine ⟨fun _ => (p_indexOfChar hi c).i ⟨congrArg some e2.symm, rfl⟩, fun h2 => ⟨?_, rfl⟩⟩
    have h0 : (strB i).length = 0 := by
      rcases Nat.eq_zero_or_pos (strB i).length with q | q
      · exact q
      · exact absurd (show (0 : Int32) < nI (strB i).length by rw [← nI_0]; exact nI_lt q (by omega)) h2
    have h1 : strB i = [] := List.length_eq_zero_iff.mp h0
    rw [ixV, h1]; rfl
  · have hc := inV_0.mp h
    have : ixV i c = -1 := ixF_out _ _ (fun b hb e => by
      obtain ⟨h1, h2⟩ := strB_ok i hi b hb
      rw [e] at h1 h2
      exact hc ⟨h1, Int32.le_trans h2 (by decide)⟩)
    rw [this]
theorem p_indexOf2 (hi : i < strT.length) (c : Int32) : AMp (d + 2) iJ0_indexOf_7cf53 [.ref (1000 + i), .int c, .int 0] M (ixV i c) := by
  refine eJ0_indexOf_7cf53 M _ _ (bJ0_indexOf_7cf53_0 hi M _ _ ((p_isLatin1 hi).i ⟨fun h => absurd h (by decide), fun _ => (p_length hi).i ((p_indexOf4 hi c).i ⟨rfl, rfl⟩)⟩))
theorem p_indexOf (hi : i < strT.length) (c : Int32) : AMp (d + 3) iJ0_indexOf_0f7a4 [.ref (1000 + i), .int c] M (ixV i c) := by
  refine eJ0_indexOf_0f7a4 M _ (bJ0_indexOf_0f7a4_0 hi M _ ((p_indexOf2 hi c).i ⟨rfl, rfl⟩))
end PJ
