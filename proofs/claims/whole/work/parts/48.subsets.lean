/-! SUBSETS IN THEIR ORDER -/
def Sb (c P : Nat) : Prop := ∀ i, c.testBit i = true → P.testBit i = true
theorem tb_0 (n : Nat) : n.testBit 0 = true ↔ n % 2 = 1 := by rw [Nat.testBit_zero, decide_eq_true_eq]
theorem Sb_two {c P : Nat} : Sb c P ↔ (c % 2 = 1 → P % 2 = 1) ∧ Sb (c / 2) (P / 2) := by
  constructor
  · intro h
    refine ⟨fun q => (tb_0 P).mp (h 0 ((tb_0 c).mpr q)), fun i hi => ?_⟩
    have := h (i + 1) (by rw [Nat.testBit_succ]; exact hi)
    rw [Nat.testBit_succ] at this
    exact this
  · rintro ⟨h0, h1⟩ i hi
    cases i with
    | zero => exact (tb_0 P).mpr (h0 ((tb_0 c).mp hi))
    | succ i => rw [Nat.testBit_succ] at hi ⊢; exact h1 i hi
theorem two_and (x y b c : Nat) (hb : b < 2) (hc : c < 2) : (2 * x + b) &&& (2 * y + c) = 2 * (x &&& y) + (if b = 1 ∧ c = 1 then 1 else 0) := by
  refine Nat.eq_of_testBit_eq (fun i => ?_)
  cases i with
  | zero =>
    rw [Nat.testBit_and]
    have e1 : (2 * x + b).testBit 0 = decide (b = 1) := by rw [Nat.testBit_zero]; congr 1; apply propext; omega
    have e2 : (2 * y + c).testBit 0 = decide (c = 1) := by rw [Nat.testBit_zero]; congr 1; apply propext; omega
    have e3 : (2 * (x &&& y) + (if b = 1 ∧ c = 1 then 1 else 0)).testBit 0 = decide (b = 1 ∧ c = 1) := by
      rw [Nat.testBit_zero]; congr 1; apply propext
      by_cases q : b = 1 ∧ c = 1
      · rw [if_pos q]; exact ⟨fun _ => q, fun _ => by omega⟩
      · rw [if_neg q]; exact ⟨fun _ => by omega, fun w => absurd w q⟩
    rw [e1, e2, e3, Bool.decide_and]
  | succ i =>
    rw [Nat.testBit_and, Nat.testBit_succ, Nat.testBit_succ, Nat.testBit_succ]
    have e1 : (2 * x + b) / 2 = x := by omega
    have e2 : (2 * y + c) / 2 = y := by omega
    have e3 : (2 * (x &&& y) + (if b = 1 ∧ c = 1 then 1 else 0)) / 2 = x &&& y := by split <;> omega
    rw [e1, e2, e3, Nat.testBit_and]
def pd : Nat → Nat → Nat → Nat
  | 0, _, _ => 0
  | k + 1, P, i => if P % 2 = 1 then 2 * pd k (P / 2) (i / 2) + i % 2 else 2 * pd k (P / 2) i
def pcN : Nat → Nat → Nat
  | 0, _ => 0
  | k + 1, P => P % 2 + pcN k (P / 2)
theorem pd_o {k P i : Nat} (h : P % 2 = 1) : pd (k + 1) P i = 2 * pd k (P / 2) (i / 2) + i % 2 := by rw [pd, if_pos h]
theorem pd_e {k P i : Nat} (h : ¬ P % 2 = 1) : pd (k + 1) P i = 2 * pd k (P / 2) i := by rw [pd, if_neg h]
theorem pd_lt : ∀ k P i, pd k P i < 2 ^ k
  | 0, _, _ => Nat.one_pos
  | k + 1, P, i => by
    have h1 := pd_lt k (P / 2) (i / 2)
    have h2 := pd_lt k (P / 2) i
    rw [Nat.pow_succ]
    by_cases h : P % 2 = 1
    · rw [pd_o h]; omega
    · rw [pd_e h]; omega
theorem pd_sub : ∀ k P i, Sb (pd k P i) P
  | 0, _, _ => fun i hi => by simp [pd] at hi
  | k + 1, P, i => by
    rw [Sb_two]
    by_cases h : P % 2 = 1
    · rw [pd_o h]
      refine ⟨fun _ => h, ?_⟩
      rw [show (2 * pd k (P / 2) (i / 2) + i % 2) / 2 = pd k (P / 2) (i / 2) by omega]
      exact pd_sub k _ _
    · rw [pd_e h]
      refine ⟨fun q => by omega, ?_⟩
      rw [show 2 * pd k (P / 2) i / 2 = pd k (P / 2) i by omega]
      exact pd_sub k _ _
theorem pd_0 : ∀ k P, pd k P 0 = 0
  | 0, _ => rfl
  | k + 1, P => by
    have := pd_0 k (P / 2)
    by_cases h : P % 2 = 1
    · rw [pd_o h, show 0 / 2 = 0 from rfl, this]
    · rw [pd_e h, this]
theorem pc_o {k P : Nat} (h : P % 2 = 1) : 2 ^ pcN (k + 1) P = 2 * 2 ^ pcN k (P / 2) := by rw [pcN, h, Nat.pow_add]
theorem pc_e {k P : Nat} (h : ¬ P % 2 = 1) : 2 ^ pcN (k + 1) P = 2 ^ pcN k (P / 2) := by rw [pcN, show P % 2 = 0 by omega, Nat.zero_add]
theorem pd_mono : ∀ k P i j, i < j → j < 2 ^ pcN k P → pd k P i < pd k P j
  | 0, P, i, j, h1, h2 => by simp [pcN] at h2; omega
  | k + 1, P, i, j, h1, h2 => by
    by_cases h : P % 2 = 1
    · rw [pc_o h] at h2
      rw [pd_o h, pd_o h]
      by_cases e : i / 2 = j / 2
      · rw [e]; omega
      · have := pd_mono k (P / 2) (i / 2) (j / 2) (by omega) (by omega)
        omega
    · rw [pc_e h] at h2
      rw [pd_e h, pd_e h]
      have := pd_mono k (P / 2) i j h1 h2
      omega
theorem pd_surj : ∀ k P c, P < 2 ^ k → Sb c P → ∃ i, i < 2 ^ pcN k P ∧ pd k P i = c
  | 0, P, c, hP, h => by
    refine ⟨0, Nat.one_pos, ?_⟩
    have p0 : P = 0 := by simp at hP; exact hP
    show 0 = c
    refine Nat.eq_of_testBit_eq (fun i => ?_)
    cases e : c.testBit i with
    | false => simp
    | true => have := h i e; rw [p0] at this; simp at this
  | k + 1, P, c, hP, h => by
    rw [Nat.pow_succ] at hP
    obtain ⟨s0, s1⟩ := Sb_two.mp h
    obtain ⟨i, i1, i2⟩ := pd_surj k (P / 2) (c / 2) (by omega) s1
    by_cases q : P % 2 = 1
    · refine ⟨2 * i + c % 2, by rw [pc_o q]; omega, ?_⟩
      rw [pd_o q, show (2 * i + c % 2) / 2 = i by omega, i2]
      omega
    · refine ⟨i, by rw [pc_e q]; exact i1, ?_⟩
      rw [pd_e q, i2]
      have : ¬ c % 2 = 1 := fun w => q (s0 w)
      omega
theorem Sb_le : ∀ k P c, P < 2 ^ k → Sb c P → c ≤ P := by
  intro k
  induction k with
  | zero =>
    intro P c hP h
    have p0 : P = 0 := by simp at hP; exact hP
    rw [p0] at h ⊢
    have : c = 0 := Nat.eq_of_testBit_eq (fun i => by
      cases e : c.testBit i with
      | false => simp
      | true => have := h i e; simp at this)
    omega
  | succ k ih =>
    intro P c hP h
    rw [Nat.pow_succ] at hP
    obtain ⟨s0, s1⟩ := Sb_two.mp h
    have := ih (P / 2) (c / 2) (by omega) s1
    by_cases q : c % 2 = 1
    · have := s0 q; omega
    · omega
theorem pd_last (k P : Nat) (hP : P < 2 ^ k) : pd k P (2 ^ pcN k P - 1) = P := by
  obtain ⟨j, j1, j2⟩ := pd_surj k P P hP (fun _ h => h)
  by_cases e : j = 2 ^ pcN k P - 1
  · rw [← e]; exact j2
  · have m := pd_mono k P j (2 ^ pcN k P - 1) (by omega) (by omega)
    have := Sb_le k P _ hP (pd_sub k P (2 ^ pcN k P - 1))
    omega
theorem pd_gap (k P i c : Nat) (hP : P < 2 ^ k) (hi : i + 1 < 2 ^ pcN k P) (h : Sb c P) (h1 : pd k P i < c) (h2 : c < pd k P (i + 1)) : False := by
  obtain ⟨j, j1, j2⟩ := pd_surj k P c hP h
  rcases Nat.lt_trichotomy j (i + 1) with q | q | q
  · by_cases e : j = i
    · rw [e] at j2; omega
    · have := pd_mono k P j i (by omega) (by omega); omega
  · rw [q] at j2; omega
  · have := pd_mono k P (i + 1) j q j1; omega
theorem pd_not : ∀ k P c, P < 2 ^ k → Sb c P → (2 ^ k - 1 - (P - c)) &&& P = c := by
  intro k
  induction k with
  | zero =>
    intro P c hP h
    have p0 : P = 0 := by simp at hP; exact hP
    have := Sb_le 0 P c hP h
    rw [p0, Nat.and_zero]
    omega
  | succ k ih =>
    intro P c hP h
    rw [Nat.pow_succ] at hP
    obtain ⟨s0, s1⟩ := Sb_two.mp h
    have le := Sb_le k (P / 2) (c / 2) (by omega) s1
    have := ih (P / 2) (c / 2) (by omega) s1
    have hk : 0 < 2 ^ k := Nat.pow_pos (by omega)
    have eP : P = 2 * (P / 2) + P % 2 := by omega
    have key : 2 ^ (k + 1) - 1 - (P - c) = 2 * (2 ^ k - 1 - (P / 2 - c / 2)) + (1 - (P % 2 - c % 2)) := by
      rw [Nat.pow_succ]
      have : c % 2 ≤ P % 2 := by
        by_cases q : c % 2 = 1
        · have := s0 q; omega
        · omega
      omega
    rw [key]
    have r : (2 * (2 ^ k - 1 - (P / 2 - c / 2)) + (1 - (P % 2 - c % 2))) &&& (2 * (P / 2) + P % 2) = 2 * ((2 ^ k - 1 - (P / 2 - c / 2)) &&& (P / 2)) + (if 1 - (P % 2 - c % 2) = 1 ∧ P % 2 = 1 then 1 else 0) := two_and _ _ _ _ (by omega) (by omega)
    rw [← eP, this] at r
    rw [r]
    by_cases q : c % 2 = 1
    · have := s0 q; rw [if_pos ⟨by omega, this⟩]; omega
    · rw [if_neg (by omega)]; omega
theorem pd_nx : ∀ k P i, P < 2 ^ k → i + 1 < 2 ^ pcN k P → ((pd k P i + 2 ^ k - P) % 2 ^ k) &&& P = pd k P (i + 1) := by
  intro k
  induction k with
  | zero => intro P i _ h; simp [pcN] at h
  | succ k ih =>
    intro P i hP hi
    have hP2 := hP
    rw [Nat.pow_succ] at hP2
    have hk : 0 < 2 ^ k := Nat.pow_pos (by omega)
    have eP : P = 2 * (P / 2) + P % 2 := by omega
    have e2 : 2 ^ (k + 1) = 2 * 2 ^ k := by rw [Nat.pow_succ, Nat.mul_comm]
    by_cases q : P % 2 = 1
    · rw [pc_o q] at hi
      have lt := pd_lt k (P / 2) (i / 2)
      by_cases io : i % 2 = 1
      · have IH := ih (P / 2) (i / 2) (by omega) (by omega)
        rw [pd_o q, pd_o q, show (i + 1) / 2 = i / 2 + 1 by omega, show (i + 1) % 2 = 0 by omega, io, ← IH]
        have a1 : (2 * pd k (P / 2) (i / 2) + 1 + 2 ^ (k + 1) - P) = 2 * (pd k (P / 2) (i / 2) + 2 ^ k - P / 2) := by omega
        rw [a1, e2, Nat.mul_mod_mul_left]
        have r := two_and ((pd k (P / 2) (i / 2) + 2 ^ k - P / 2) % 2 ^ k) (P / 2) 0 (P % 2) (by omega) (by omega)
        rw [← eP, if_neg (by omega)] at r
        exact r
      · rw [pd_o q, pd_o q, show (i + 1) / 2 = i / 2 by omega, show (i + 1) % 2 = 1 by omega, show i % 2 = 0 by omega]
        have sb := pd_sub k (P / 2) (i / 2)
        have le := Sb_le k (P / 2) _ (by omega) sb
        have N := pd_not k (P / 2) _ (by omega) sb
        have a1 : (2 * pd k (P / 2) (i / 2) + 0 + 2 ^ (k + 1) - P) = 2 * (2 ^ k - 1 - (P / 2 - pd k (P / 2) (i / 2))) + 1 := by omega
        have a2 : (2 * (2 ^ k - 1 - (P / 2 - pd k (P / 2) (i / 2))) + 1) % 2 ^ (k + 1) = 2 * (2 ^ k - 1 - (P / 2 - pd k (P / 2) (i / 2))) + 1 := Nat.mod_eq_of_lt (by omega)
        rw [a1, a2]
        have r := two_and (2 ^ k - 1 - (P / 2 - pd k (P / 2) (i / 2))) (P / 2) 1 (P % 2) (by omega) (by omega)
        rw [← eP, if_pos ⟨rfl, q⟩, N] at r
        exact r
    · rw [pc_e q] at hi
      have lt := pd_lt k (P / 2) i
      have IH := ih (P / 2) i (by omega) hi
      rw [pd_e q, pd_e q, ← IH]
      have a1 : (2 * pd k (P / 2) i + 2 ^ (k + 1) - P) = 2 * (pd k (P / 2) i + 2 ^ k - P / 2) := by omega
      rw [a1, e2, Nat.mul_mod_mul_left]
      have r := two_and ((pd k (P / 2) i + 2 ^ k - P / 2) % 2 ^ k) (P / 2) 0 (P % 2) (by omega) (by omega)
      rw [← eP, if_neg (by omega)] at r
      exact r
theorem pc_ct : ∀ k P, pcN k P = fb_ct (fun j => P.testBit j) k
  | 0, _ => rfl
  | k + 1, P => by
    have s := fb_ct_split (fun j => P.testBit j) 1 k
    rw [Nat.add_comm k 1, s]
    rw [Nat.add_comm 1 k, pcN, pc_ct k (P / 2)]
    have e1 : fb_ct (fun j => P.testBit j) 1 = P % 2 := by
      rw [fb_ct_succ]
      show 0 + (if P.testBit 0 = true then 1 else 0) = P % 2
      by_cases h : P % 2 = 1
      · rw [if_pos ((tb_0 P).mpr h), h]
      · rw [if_neg (fun w => h ((tb_0 P).mp w))]; omega
    have e2 : fb_ct (fun j => (P / 2).testBit j) k = fb_ct (fun j => P.testBit (1 + j)) k := fb_ct_cong (fun j _ => by rw [Nat.add_comm 1 j, Nat.testBit_succ])
    rw [e1, e2]
theorem pc_cnt (P : Nat) : pcN 16 P = cnt P := pc_ct 16 P
theorem nx_pd {P i : Nat} (hP : P < 65536) (hi : i + 1 < 2 ^ cnt P) : nxV (nI (pd 16 P i)) (nI P) = nI (pd 16 P (i + 1)) := by
  have lt := pd_lt 16 P i
  have N := pd_nx 16 P i hP (by rw [pc_cnt]; exact hi)
  have e1 : nI (pd 16 P i) - nI P = nI (pd 16 P i + 2 ^ 32 - P) := by
    have : nI (pd 16 P i) = nI (pd 16 P i + 2 ^ 32) := by
      have : nI (2 ^ 32) = 0 := by decide
      rw [← nI_add, this, Int32.add_zero]
    rw [this, pk_sub (by omega)]
  have e2 : (pd 16 P i + 2 ^ 32 - P) &&& P = ((pd 16 P i + 2 ^ 16 - P) % 2 ^ 16) &&& P := by
    have m : (pd 16 P i + 2 ^ 16 - P) % 2 ^ 16 = (pd 16 P i + 2 ^ 32 - P) % 2 ^ 16 := by omega
    rw [m]
    refine Nat.eq_of_testBit_eq (fun j => ?_)
    rw [Nat.testBit_and, Nat.testBit_and, Nat.testBit_mod_two_pow]
    cases q : P.testBit j with
    | false => rw [Bool.and_false, Bool.and_false]
    | true => rw [decide_eq_true (bit_lt (n := 16) hP q), Bool.true_and]
  show (nI (pd 16 P i) - nI P) &&& nI P = _
  rw [e1, fa_and, e2, N]
