/-! branches over numbers -/
section BQ
variable {A B : Prop} {x y : Int32}
theorem bq_le (a b : Nat) (hx : x = nI a) (hy : y = nI b) (ha : a < 2 ^ 31) (hb : b < 2 ^ 31) (f : a ≤ b → A) (g : b < a → B) : (x ≤ y → A) ∧ (¬ x ≤ y → B) := by
  subst hx; subst hy
  rw [nI_leI ha hb]
  exact ⟨f, fun h => g (by omega)⟩
theorem bq_lt (a b : Nat) (hx : x = nI a) (hy : y = nI b) (ha : a < 2 ^ 31) (hb : b < 2 ^ 31) (f : a < b → A) (g : b ≤ a → B) : (x < y → A) ∧ (¬ x < y → B) := by
  subst hx; subst hy
  rw [nI_ltI ha hb]
  exact ⟨f, fun h => g (by omega)⟩
theorem bq_eq (a b : Nat) (hx : x = nI a) (hy : y = nI b) (ha : a < 2 ^ 31) (hb : b < 2 ^ 31) (f : a = b → A) (g : ¬ a = b → B) : (x = y → A) ∧ (¬ x = y → B) := by
  subst hx; subst hy
  rw [nI_eq ha hb]
  exact ⟨f, g⟩
theorem bq_ne (a b : Nat) (hx : x = nI a) (hy : y = nI b) (ha : a < 2 ^ 31) (hb : b < 2 ^ 31) (f : ¬ a = b → A) (g : a = b → B) : (¬ x = y → A) ∧ (x = y → B) := by
  subst hx; subst hy
  rw [nI_eq ha hb]
  exact ⟨f, g⟩
theorem bq_has (s j : Nat) (hx : x = nI s) (hy : y = nI j) (hs : s < 2 ^ 31) (hj : j < 32) (f : s.testBit j = false → A) (g : s.testBit j = true → B) : (hasV x y = 0 → A) ∧ (¬ hasV x y = 0 → B) := by
  subst hx; subst hy
  rw [hasV_n1, has0 hs hj, has1 hs hj]
  exact ⟨f, g⟩
theorem bq_hasn (s j : Nat) (hx : x = nI s) (hy : y = nI j) (hs : s < 2 ^ 31) (hj : j < 32) (f : s.testBit j = true → A) (g : s.testBit j = false → B) : (¬ hasV x y = 0 → A) ∧ (hasV x y = 0 → B) := (bq_has s j hx hy hs hj g f).symm
end BQ
theorem vp_n {x : Int32} (n : Nat) {N : Nat} (hx : x = nI n) (h : n < N) (hN : N < 2 ^ 31) : vp_in x N := by subst hx; exact vp_in_nI h hN
/-! a valley, in numbers: row 0: people, who lives, oaths, the year, X; 1 kind, 2 inches, 3 years, 4 heels, 5 price, 6 owner, 7 sworn -/
abbrev VD : Type := Nat → Nat → Nat
def rl (r : Nat) : Nat := if r ≤ 5 then 16 else 12
def VRel (M : Mem) (o : Nat) (sl row : Nat → Nat) (s : VD) : Prop := (∀ i, i < 5 → M o (sl i) = nI (s 0 i)) ∧ ∀ r j, 1 ≤ r → r ≤ 7 → j < rl r → M (row r) j = nI (s r j)
def slM (i : Nat) : Nat := [0, 1, 34, 2, 3].getD i 0
def rowM (r : Nat) : Nat := [0, 78, 79, 80, 81, 82, 99, 101].getD r 0
def slK (i : Nat) : Nat := [53, 54, 57, 55, 56].getD i 0
def rowK (r : Nat) : Nat := [0, 111, 112, 113, 114, 115, 116, 118].getD r 0
/-- the model's valley, its kept one, a valley of the class -/
def VM (M : Mem) (s : VD) : Prop := VRel M 77 slM rowM s
def VK (M : Mem) (s : VD) : Prop := VRel M 77 slK rowK s
def VC (v : Nat) (M : Mem) (s : VD) : Prop := VRel M v (fun i => 7 + i) (fun r => v + r) s
def WFV (s : VD) : Prop := s 0 0 ≤ 16 ∧ s 0 1 < 2 ^ s 0 0 ∧ s 0 2 ≤ 12 ∧ s 0 3 ≤ 999 ∧ s 0 4 < 65536 ∧ (∀ j, j < 16 → s 1 j ≤ 4 ∧ s 2 j ≤ 99 ∧ s 3 j ≤ 99 ∧ s 4 j ≤ 9 ∧ s 5 j ≤ 999) ∧ (∀ j, j < s 0 0 → 1 ≤ s 2 j) ∧ ∀ o, o < s 0 2 → s 6 o < s 0 0 ∧ s 7 o < 2 ^ s 0 0 ∧ (s 7 o).testBit (s 6 o) = true
theorem WFV.live {s : VD} (h : WFV s) : s 0 1 < 65536 := Nat.lt_of_lt_of_le h.2.1 (Nat.pow_le_pow_right (by omega) h.1)
theorem WFV.sworn {s : VD} (h : WFV s) {o : Nat} (ho : o < s 0 2) : s 7 o < 65536 := Nat.lt_of_lt_of_le (h.2.2.2.2.2.2.2 o ho).2.1 (Nat.pow_le_pow_right (by omega) h.1)
theorem WFV.lt {s : VD} (h : WFV s) {j : Nat} (hj : (s 0 1).testBit j = true) : j < s 0 0 := bit_lt h.2.1 hj
/-- whose inches and heels count -/
def asS (s : VD) (p : Nat) : Nat := if s 1 p = 4 ∧ s 5 p < s 0 0 ∧ ¬ s 5 p = p ∧ ¬ s 1 (s 5 p) = 4 then s 5 p else p
def tallS (s : VD) (p : Nat) : Nat := s 2 (asS s p) + s 4 (asS s p)
theorem asS_lt {s : VD} (h : WFV s) {p : Nat} (hp : p < 16) : asS s p < 16 := by
  rw [asS]; split
  · rename_i q; have := h.1; omega
  · exact hp
theorem asS_in {s : VD} {p : Nat} (hp : p < s 0 0) : asS s p < s 0 0 := by
  rw [asS]; split
  · rename_i q; exact q.2.1
  · exact hp
theorem tall_lt {s : VD} (h : WFV s) {p : Nat} (hp : p < 16) : tallS s p ≤ 108 := by
  have := h.2.2.2.2.2.1 _ (asS_lt h hp)
  rw [tallS]; omega
theorem tall_pos {s : VD} (h : WFV s) {p : Nat} (hp : p < s 0 0) : 1 ≤ tallS s p := by
  have := h.2.2.2.2.2.2.1 _ (asS_in hp)
  rw [tallS]; omega
/-- the tallest of the first k, 31: nobody lives -/
def topTo (s : VD) : Nat → Nat
  | 0 => 31
  | k + 1 => if (s 0 1).testBit k = true ∧ (topTo s k = 31 ∨ tallS s (topTo s k) < tallS s k) then k else topTo s k
def topS (s : VD) : Nat := topTo s (s 0 0)
/-- a person's number, or NONE -/
def tvI (b : Nat) : Int32 := if b = 31 then -1 else nI b
theorem topTo_lt (s : VD) : ∀ k, topTo s k = 31 ∨ (topTo s k < k ∧ (s 0 1).testBit (topTo s k) = true)
  | 0 => Or.inl rfl
  | k + 1 => by
    rw [topTo]
    split
    · rename_i h; exact Or.inr ⟨by omega, h.1⟩
    · rcases topTo_lt s k with h | ⟨h, h2⟩
      · exact Or.inl h
      · exact Or.inr ⟨by omega, h2⟩
theorem tvI_m1 {b : Nat} (h : b < 32) : tvI b = -1 ↔ b = 31 := by
  rw [tvI]
  split
  · simp_all
  · rename_i q
    constructor
    · intro e
      have := congrArg Int32.toInt e
      rw [nI_toInt (by omega)] at this
      have e2 : (-1 : Int32).toInt = -1 := by decide
      omega
    · intro e; exact absurd e q
theorem tvI_n {b : Nat} (h : ¬ b = 31) : tvI b = nI b := if_neg h
/-- rows that stay -/
def FrC (M M' : Mem) : Prop := ∀ k, k < 77 → M' k = M k
def FrM (M M' : Mem) : Prop := ∀ k, 77 ≤ k → M' k = M k
theorem FrC.rf (M : Mem) : FrC M M := fun _ _ => rfl
theorem FrM.rf (M : Mem) : FrM M M := fun _ _ => rfl
theorem FrC.tr {M M1 M2 : Mem} (h : FrC M M1) (h2 : FrC M1 M2) : FrC M M2 := fun k hk => (h2 k hk).trans (h k hk)
theorem FrM.tr {M M1 M2 : Mem} (h : FrM M M1) (h2 : FrM M1 M2) : FrM M M2 := fun k hk => (h2 k hk).trans (h k hk)
theorem FrC.wr {M M1 : Mem} (h : FrC M M1) {k j : Nat} (x : Int32) (hk : 77 ≤ k) : FrC M (wr M1 k j x) := fun q hq => (wr_row (by omega)).trans (h q hq)
theorem FrM.wr {M M1 : Mem} (h : FrM M M1) {k j : Nat} (x : Int32) (hk : k < 77) : FrM M (wr M1 k j x) := fun q hq => (wr_row (by omega)).trans (h q hq)
section MT
variable {d : Nat} {M : Mem} {s : VD}
theorem c_tallOf (hs : WFV s) (h : VM M s) {p : Nat} (hp : p < 16) : AMp d iX10_tallOf [.ref 77, .int (nI p)] M (nI (tallS s p)) := by
  have k1 : ∀ j, j < 16 → M 78 j = nI (s 1 j) := fun j hj => h.2 1 j (by decide) (by decide) hj
  have k2 : ∀ j, j < 16 → M 79 j = nI (s 2 j) := fun j hj => h.2 2 j (by decide) (by decide) hj
  have k4 : ∀ j, j < 16 → M 81 j = nI (s 4 j) := fun j hj => h.2 4 j (by decide) (by decide) hj
  have k5 : ∀ j, j < 16 → M 82 j = nI (s 5 j) := fun j hj => h.2 5 j (by decide) (by decide) hj
  have kn : M 77 0 = nI (s 0 0) := h.1 0 (by decide)
  have w := hs.2.2.2.2.2.1 p hp
  have hn := hs.1
  have hi : ix (nI p) = p := ix_nI (by omega)
  have fin : ∀ q, q < 16 → asS s p = q → AX10_tallOf d (fun r M' => some (nI (tallS s p)) = r ∧ M = M') 58 [lR 77, none, none] [.int (nI q)] M := by
    intro q hq e
    refine bX10_tallOf_58 M _ ⟨vp_in_nI hq (by decide), vp_in_nI hq (by decide), ?_, rfl⟩
    rw [ix_nI (by omega), k2 q hq, k4 q hq, nI_add, tallS, e]
  have vi : vp_in (nI p) 16 := vp_in_nI hp (by decide)
  refine eX10_tallOf M _ (bX10_tallOf_0 M _ ?_)
  rw [hi, k1 p hp, k5 p hp, kn]
  refine ⟨vi, bq_ne _ 4 rfl rfl (by omega) (by decide) (fun a => bX10_tallOf_57 M _ (fin p hp (by rw [asS, if_neg (fun z => a z.1)]))) (fun a => ⟨vi, bq_le _ _ rfl rfl (by omega) (by omega) (fun b => bX10_tallOf_57 M _ (fin p hp (by rw [asS, if_neg (fun z => by omega)]))) (fun b => ⟨vi, bq_eq _ _ rfl rfl (by omega) (by omega) (fun c => bX10_tallOf_57 M _ (fin p hp (by rw [asS, if_neg (fun z => z.2.2.1 c)]))) (fun c => ⟨vi, vp_in_nI (by omega) (by decide), ?_⟩)⟩)⟩)⟩
  have w2 := hs.2.2.2.2.2.1 (s 5 p) (by omega)
  rw [ix_nI (n := s 5 p) (by omega), k1 _ (by omega)]
  exact bq_eq _ 4 rfl rfl (by omega) (by decide) (fun e => bX10_tallOf_57 M _ (fin p hp (by rw [asS, if_neg (fun z => z.2.2.2 e)]))) (fun e => ⟨vi, fin _ (by omega) (by rw [asS, if_pos ⟨a, b, c, e⟩])⟩)
theorem c_topOf (hs : WFV s) (h : VM M s) : AMp (d + 1) iX10_topOf [.ref 77] M (tvI (topS s)) := by
  have kn : M 77 0 = nI (s 0 0) := h.1 0 (by decide)
  have kl : M 77 1 = nI (s 0 1) := h.1 1 (by decide)
  have hn := hs.1
  have hl := hs.live
  refine eX10_topOf M (bX10_topOf_0 M ?_)
  refine up_loop (P := fun k => AX10_topOf (d + 1) (fun r M' => some (tvI (topS s)) = r ∧ M = M') 4 [lR 77, lI (tvI (topTo s k)), lI (nI k)] [] M) (s 0 0) 0 (by omega) ?_ ?_
  · refine bX10_topOf_4 M _ _ ?_
    rw [kn, kl]
    exact bq_le _ _ rfl rfl (by omega) (by omega) (fun _ => ⟨rfl, rfl⟩) (fun q => by omega)
  · intro k _ hk ih
    refine bX10_topOf_4 M _ _ ?_
    rw [kn, kl, nI_1]
    have hb := topTo_lt s k
    refine bq_le _ _ rfl rfl (by omega) (by omega) (fun q => by omega) (fun _ => bq_has _ k rfl rfl (by omega) (by omega) (fun a => ?_) (fun a => ⟨fun b => ?_, fun b => ?_⟩))
    · rw [topTo, if_neg (fun z => by rw [a] at z; cases z.1)] at ih; exact ih
    · rw [topTo, if_pos ⟨a, Or.inl ((tvI_m1 (by omega)).mp b)⟩] at ih
      rw [tvI_n (b := k) (by omega)] at ih
      exact ih
    · have b' : ¬ topTo s k = 31 := fun z => b ((tvI_m1 (by omega)).mpr z)
      have b2 : topTo s k < k := by omega
      refine (c_tallOf hs h (by omega)).i ?_
      rw [tvI_n b']
      refine (c_tallOf hs h (by omega)).i ?_
      have t1 := tall_lt hs (p := k) (by omega)
      have t2 := tall_lt hs (p := topTo s k) (by omega)
      refine bq_le _ _ rfl rfl (by omega) (by omega) (fun c => ?_) (fun c => ?_)
      · rw [topTo, if_neg (fun z => by rcases z.2 with z | z <;> omega), tvI_n b'] at ih; exact ih
      · rw [topTo, if_pos ⟨a, Or.inr c⟩, tvI_n (b := k) (by omega)] at ih; exact ih
end MT
