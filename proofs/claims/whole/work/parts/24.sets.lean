/-! sets as numbers: nI s, s below 2 ^ 16 -/
theorem bt_nI (n : Nat) {i : Nat} (h : i < 32) : bt (nI n) i = n.testBit i := by
  show (BitVec.ofNat 32 n).getLsbD i = n.testBit i
  rw [BitVec.getLsbD_ofNat]
  simp [h]
theorem shl1 : ∀ j, j < 31 → (1 : Int32) <<< (nI j &&& 31) = nI (2 ^ j) := by decide +kernel
theorem shr_nI {s j : Nat} (hs : s < 2 ^ 31) (hj : j < 32) : nI s >>> (nI j &&& 31) = nI (s / 2 ^ j) := pk_shrN hs _ j (s_l j hj)
theorem has_nI {s j : Nat} (hs : s < 2 ^ 31) (hj : j < 32) : hasV (nI s) (nI j) = if s.testBit j then 1 else 0 := by
  have hlt : s / 2 ^ j < 2 ^ 32 := Nat.lt_of_le_of_lt (Nat.div_le_self _ _) (by omega)
  rw [hasV, shr_nI hs hj, pk_andN hlt (m := 1) 1 (by decide), Nat.testBit_eq_decide_div_mod_eq]
  rcases Nat.mod_two_eq_zero_or_one (s / 2 ^ j) with h | h
  · rw [show s / 2 ^ j % 2 ^ 1 = 0 from h]; decide
  · rw [show s / 2 ^ j % 2 ^ 1 = 1 from h]; decide
theorem has_m1 {s : Nat} (hs : s < 2 ^ 31) : hasV (nI s) (-1) = 0 := by
  have h := has_nI hs (j := 31) (by omega)
  have e : (nI 31 &&& 31 : Int32) = (-1) &&& 31 := by decide
  rw [hasV, ← e]
  rw [hasV] at h
  rw [h, Nat.testBit_lt_two_pow hs]
  rfl
theorem has1 {s j : Nat} (hs : s < 2 ^ 31) (hj : j < 32) : hasV (nI s) (nI j) = 1 ↔ s.testBit j = true := by
  rw [has_nI hs hj]; split <;> simp_all
theorem has0 {s j : Nat} (hs : s < 2 ^ 31) (hj : j < 32) : hasV (nI s) (nI j) = 0 ↔ s.testBit j = false := by
  rw [has_nI hs hj]; split <;> simp_all
/-- one set without another -/
def sd (a b : Nat) : Nat := a ^^^ (a &&& b)
theorem sd_bit (a b i : Nat) : (sd a b).testBit i = (a.testBit i && !b.testBit i) := by
  rw [sd, Nat.testBit_xor, Nat.testBit_and]
  cases a.testBit i <;> cases b.testBit i <;> rfl
theorem andn (a b : Nat) : nI a &&& (nI b ^^^ (-1)) = nI (sd a b) := by
  apply b_ext
  intro i hi
  rw [b_and, b_xor, b_m1 i hi, bt_nI _ hi, bt_nI _ hi, bt_nI _ hi, sd_bit]
  cases b.testBit i <;> simp
theorem sd_le (a b : Nat) : sd a b ≤ a := by
  have h : sd a b = sd a b &&& a := by
    apply Nat.eq_of_testBit_eq
    intro i
    rw [Nat.testBit_and, sd_bit]
    cases a.testBit i <;> simp
  rw [h]
  exact Nat.and_le_right
theorem sd_lt {a b m : Nat} (h : a < m) : sd a b < m := Nat.lt_of_le_of_lt (sd_le a b) h
theorem or_lt {a b k : Nat} (ha : a < 2 ^ k) (hb : b < 2 ^ k) : a ||| b < 2 ^ k := Nat.or_lt_two_pow ha hb
theorem p2_lt {j k : Nat} (h : j < k) : 2 ^ j < 2 ^ k := Nat.pow_lt_pow_right (by omega) h
theorem p2_bit (j i : Nat) : (2 ^ j).testBit i = decide (j = i) := Nat.testBit_two_pow
theorem lt_of_bits {s n : Nat} (h : ∀ i, s.testBit i = true → i < n) : s < 2 ^ n := by
  apply Nat.lt_pow_two_of_testBit
  intro i hi
  cases hb : s.testBit i with
  | false => rfl
  | true => have := h i hb; omega
theorem bit_lt {s n i : Nat} (hs : s < 2 ^ n) (h : s.testBit i = true) : i < n := by
  rcases Nat.lt_or_ge i n with q | q
  · exact q
  · rw [Nat.testBit_lt_two_pow (Nat.lt_of_lt_of_le hs (Nat.pow_le_pow_right (by omega) q))] at h; cases h
/-- a set with one more -/
theorem or1 {s j : Nat} (hj : j < 31) : nI s ||| ((1 : Int32) <<< (nI j &&& 31)) = nI (s ||| 2 ^ j) := by rw [shl1 j hj, fa_or]
theorem or1_bit (s j i : Nat) : (s ||| 2 ^ j).testBit i = (s.testBit i || decide (j = i)) := by rw [Nat.testBit_or, p2_bit]
theorem sd1 {s j : Nat} (hj : j < 31) : nI s &&& (((1 : Int32) <<< (nI j &&& 31)) ^^^ (-1)) = nI (sd s (2 ^ j)) := by rw [shl1 j hj, andn]
theorem sd1_bit (s j i : Nat) : (sd s (2 ^ j)).testBit i = (s.testBit i && !decide (j = i)) := by rw [sd_bit, p2_bit]
/-- how many -/
def cnt (s : Nat) : Nat := fb_ct (fun j => s.testBit j) 16
theorem cnt_le (s : Nat) : cnt s ≤ 16 := fb_ct_le _ _
theorem bits_nI {s : Nat} (hs : s < 2 ^ 31) : bitsV (nI s) = nI (cnt s) := by
  have key : ∀ k, k ≤ 16 → bitsTo (nI s) k = nI (fb_ct (fun j => s.testBit j) k) := by
    intro k
    induction k with
    | zero => intro _; rfl
    | succ k ih =>
      intro hk
      rw [bitsTo, ih (by omega), has_nI hs (by omega), fb_ct_succ]
      cases s.testBit k
      · show nI _ + 0 = nI (_ + 0); simp
      · show nI _ + 1 = nI (_ + 1); rw [nI_1]
  exact key 16 (by omega)
def bcN (x : Nat) : Nat :=
  let a := x - ((x >>> 1) &&& 1431655765)
  let b := (a &&& 858993459) + ((a >>> 2) &&& 858993459)
  let c := (b + (b >>> 4)) &&& 252645135
  let e := c + (c >>> 8)
  let f := e + (e >>> 16)
  f &&& 63
theorem bcN_two : ∀ a, a < 256 → ∀ b, b < 256 → (bcN (256 * a + b) == bcN a + bcN b) = true := by decide +kernel
theorem bcN_one : ∀ a, a < 256 → bcN a = fb_ct (fun j => a.testBit j) 8 := by decide +kernel
theorem bcN_cnt {s : Nat} (hs : s < 65536) : bcN s = cnt s := by
  have h1 := bcN_two (s / 256) (by omega) (s % 256) (by omega)
  rw [show 256 * (s / 256) + s % 256 = s by omega] at h1
  rw [beq_iff_eq.mp h1, bcN_one _ (by omega), bcN_one _ (by omega), cnt, show (16 : Nat) = 8 + 8 from rfl, fb_ct_split]
  rw [Nat.add_comm]
  congr 1
  · apply fb_ct_cong
    intro k hk
    rw [show (256 : Nat) = 2 ^ 8 from rfl, Nat.testBit_mod_two_pow]
    simp [hk]
  · apply fb_ct_cong
    intro k hk
    rw [show (256 : Nat) = 2 ^ 8 from rfl, Nat.testBit_div_two_pow, Nat.add_comm]
theorem ush_nI {n k : Nat} (hn : n < 2 ^ 32) (hk : k < 32) : ushV (nI n) (nI k) = nI (n / 2 ^ k) := pk_ushrN hn _ k (s_u k hk)
theorem bc_nI {s : Nat} (hs : s < 65536) : bcV (nI s) = nI (cnt s) := by
  rw [← bcN_cnt hs]
  have e1 : ushV (nI s) 1 = nI (s >>> 1) := by rw [show (1 : Int32) = nI 1 by decide, ush_nI (by omega) (by omega), Nat.shiftRight_eq_div_pow]
  have l1 : (s >>> 1) &&& 1431655765 ≤ s := Nat.le_trans Nat.and_le_left (by rw [Nat.shiftRight_eq_div_pow]; exact Nat.div_le_self _ _)
  have h1 : nI s - (ushV (nI s) 1 &&& (1431655765 : Int32)) = nI (s - ((s >>> 1) &&& 1431655765)) := by rw [e1, show (1431655765 : Int32) = nI 1431655765 by decide, fa_and, pk_sub l1]
  have d1 : s - ((s >>> 1) &&& 1431655765) < 65536 := by omega
  unfold bcV bcN
  dsimp only
  rw [h1]
  generalize s - ((s >>> 1) &&& 1431655765) = a at d1 ⊢
  have h2 : ushV (nI a) 2 = nI (a >>> 2) := by rw [show (2 : Int32) = nI 2 by decide, ush_nI (by omega) (by omega), Nat.shiftRight_eq_div_pow]
  rw [h2, show (858993459 : Int32) = nI 858993459 by decide, fa_and, fa_and, nI_add]
  have d2 : (a &&& 858993459) + ((a >>> 2) &&& 858993459) < 131072 := by
    have q1 : a &&& 858993459 ≤ a := Nat.and_le_left
    have q2 : (a >>> 2) &&& 858993459 ≤ a >>> 2 := Nat.and_le_left
    rw [Nat.shiftRight_eq_div_pow] at q2
    have q3 : a / 2 ^ 2 ≤ a := Nat.div_le_self _ _
    rw [Nat.shiftRight_eq_div_pow]
    omega
  generalize (a &&& 858993459) + ((a >>> 2) &&& 858993459) = b at d2 ⊢
  have h3 : ushV (nI b) 4 = nI (b >>> 4) := by rw [show (4 : Int32) = nI 4 by decide, ush_nI (by omega) (by omega), Nat.shiftRight_eq_div_pow]
  rw [h3, nI_add, show (252645135 : Int32) = nI 252645135 by decide, fa_and]
  have d3 : (b + b >>> 4) &&& 252645135 < 262144 := by
    have q1 : (b + b >>> 4) &&& 252645135 ≤ b + b >>> 4 := Nat.and_le_left
    have q2 : b >>> 4 ≤ b := by rw [Nat.shiftRight_eq_div_pow]; exact Nat.div_le_self _ _
    omega
  generalize (b + b >>> 4) &&& 252645135 = c at d3 ⊢
  have h4 : ushV (nI c) 8 = nI (c >>> 8) := by rw [show (8 : Int32) = nI 8 by decide, ush_nI (by omega) (by omega), Nat.shiftRight_eq_div_pow]
  rw [h4, nI_add]
  have d4 : c + c >>> 8 < 524288 := by
    have q2 : c >>> 8 ≤ c := by rw [Nat.shiftRight_eq_div_pow]; exact Nat.div_le_self _ _
    omega
  generalize c + c >>> 8 = f at d4 ⊢
  have h5 : ushV (nI f) 16 = nI (f >>> 16) := by rw [show (16 : Int32) = nI 16 by decide, ush_nI (by omega) (by omega), Nat.shiftRight_eq_div_pow]
  rw [h5, nI_add, show (63 : Int32) = nI 63 by decide, fa_and]
/-- numbers in the small -/
theorem le_nI {x : Int32} {a b : Nat} (hb : b < 2 ^ 31) (ha : a ≤ b) (h1 : nI a ≤ x) (h2 : x ≤ nI b) : ∃ n : Nat, a ≤ n ∧ n ≤ b ∧ x = nI n := by
  have h0 : ¬ x < 0 := by
    intro z
    rw [Int32.lt_iff_toInt_lt] at z
    rw [Int32.le_iff_toInt_le, nI_toInt (by omega)] at h1
    have e : (0 : Int32).toInt = 0 := by decide
    omega
  obtain ⟨n, hn, e⟩ := nI_of2 (M := nI b) (n := b) (nI_toInt hb) h0 h2
  subst e
  exact ⟨n, (nI_leI (by omega) (by omega)).mp h1, hn, rfl⟩
theorem isPV_nI {n : Nat} (hn : n < 2 ^ 31) {x : Int32} : (0 ≤ x ∧ x < nI n) ↔ ∃ p, p < n ∧ x = nI p := by
  constructor
  · rintro ⟨h1, h2⟩
    obtain ⟨p, hp, rfl⟩ := nI_of (Int32.not_lt.mpr h1)
    exact ⟨p, (nI_ltI hp hn).mp h2, rfl⟩
  · rintro ⟨p, hp, rfl⟩
    exact ⟨nI_pos' (by omega), nI_lt hp hn⟩
