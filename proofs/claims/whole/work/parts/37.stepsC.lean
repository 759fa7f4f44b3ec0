/-! THE CLASS'S STEPS -/
def LV (lt v : Nat) : Prop := (lt = 10 ∧ v = 1) ∨ (lt = 32 ∧ v = 23) ∨ (lt = 67 ∧ v = 1) ∨ (lt = 67 ∧ v = 23)
theorem lv_nI {n l p : Nat} (hn : n ≤ 16) (hl : l < 2 ^ 31) (hp : p < n) : livV (nI n) (nI l) (nI p) = if l.testBit p then 1 else 0 := by
  rw [livV]
  have h1 : (0 : Int32) ≤ nI p := nI_pos' (by omega)
  have h2 : nI p < nI n := nI_lt hp (by omega)
  by_cases h : l.testBit p = true
  · rw [if_pos h, if_pos ⟨h1, h2, (has1 hl (by omega)).mpr h⟩]
  · rw [if_neg h, if_neg (fun q => h ((has1 hl (by omega)).mp q.2.2))]
theorem bq_liv (n l p : Nat) {A B : Prop} {x y z : Int32} (hx : x = nI n) (hy : y = nI l) (hz : z = nI p) (hn : n ≤ 16) (hl : l < 2 ^ 31) (hp : p < n) (f : l.testBit p = false → A) (g : l.testBit p = true → B) : (livV x y z = 0 → A) ∧ (¬ livV x y z = 0 → B) := by
  subst hx hy hz
  rw [lv_nI hn hl hp]
  cases e : l.testBit p with
  | false => exact ⟨fun _ => f e, fun q => absurd rfl q⟩
  | true => exact ⟨fun q => absurd q (by decide), fun _ => g e⟩
section CS
variable {d v la lt p a b : Nat} {s l : VD} {M : Mem}
theorem c_tellSwearer (hc : LV lt v) (hs : WFV s) (h : VC v M s) (hp : p < 16) : AMv (d + 2) iX4_tellSwearer [.ref lt, .ref v, .int (nI p)] M (fun M' => (∀ j, j < 6 → M' (lt + 1) j = f1S s p 0 j) ∧ (∀ j, 6 ≤ j → M' (lt + 1) j = M (lt + 1) j) ∧ ∀ k, k ≠ lt + 1 → M' k = M k) := by
  have vi : vp_in (nI p) 16 := vp_in_nI hp (by decide)
  have k1 : M (v + 1) p = nI (s 1 p) := h.2 1 p (by decide) (by decide) hp
  have k2 : M (v + 2) p = nI (s 2 p) := h.2 2 p (by decide) (by decide) hp
  have k3 : M (v + 3) p = nI (s 3 p) := h.2 3 p (by decide) (by decide) hp
  have k4 : M (v + 4) p = nI (s 4 p) := h.2 4 p (by decide) (by decide) hp
  have fin : ∀ c : Nat, (∀ j, j < 6 → (wr (wr (wr (wr (wr (wr M c 0 (nI (tallS s p))) c 1 (nI (s 2 p))) c 2 (nI (s 3 p))) c 3 (nI (s 4 p))) c 4 (nI (s 1 p))) c 5 (nI p)) c j = f1S s p 0 j) ∧ (∀ j, 6 ≤ j → (wr (wr (wr (wr (wr (wr M c 0 (nI (tallS s p))) c 1 (nI (s 2 p))) c 2 (nI (s 3 p))) c 3 (nI (s 4 p))) c 4 (nI (s 1 p))) c 5 (nI p)) c j = M c j) ∧ ∀ k, k ≠ c → (wr (wr (wr (wr (wr (wr M c 0 (nI (tallS s p))) c 1 (nI (s 2 p))) c 2 (nI (s 3 p))) c 3 (nI (s 4 p))) c 4 (nI (s 1 p))) c 5 (nI p)) k = M k := by
    intro c
    refine ⟨fun j hj => ?_, fun j hj => ?_, fun k hk => ?_⟩
    · match j, hj with
      | 0, _ => simp [wr, va_up, upd, f1S]
      | 1, _ => simp [wr, va_up, upd, f1S]
      | 2, _ => simp [wr, va_up, upd, f1S]
      | 3, _ => simp [wr, va_up, upd, f1S]
      | 4, _ => simp [wr, va_up, upd, f1S]
      | 5, _ => simp [wr, va_up, upd, f1S]
      | j + 6, h => omega
    · rw [wr_el (by omega), wr_el (by omega), wr_el (by omega), wr_el (by omega), wr_el (by omega), wr_el (by omega)]
    · rw [wr_row hk, wr_row hk, wr_row hk, wr_row hk, wr_row hk, wr_row hk]
  rcases hc with ⟨rfl, rfl⟩ | ⟨rfl, rfl⟩ | ⟨rfl, rfl⟩ | ⟨rfl, rfl⟩
  · refine eX4_tellSwearer_10_1 M _ (bX4_tellSwearer_10_1_0 M _ ((c_heightOf isV_1 hs h hp).i ⟨vi, vi, vi, vi, rfl, ?_⟩))
    rw [ix_nI (by omega), k1, k2, k3, k4]
    exact fin 11
  · refine eX4_tellSwearer_32_23 M _ (bX4_tellSwearer_32_23_0 M _ ((c_heightOf isV_23 hs h hp).i ⟨vi, vi, vi, vi, rfl, ?_⟩))
    rw [ix_nI (by omega), k1, k2, k3, k4]
    exact fin 33
  · refine eX4_tellSwearer_67_1 M _ (bX4_tellSwearer_67_1_0 M _ ((c_heightOf isV_1 hs h hp).i ⟨vi, vi, vi, vi, rfl, ?_⟩))
    rw [ix_nI (by omega), k1, k2, k3, k4]
    exact fin 68
  · refine eX4_tellSwearer_67_23 M _ (bX4_tellSwearer_67_23_0 M _ ((c_heightOf isV_23 hs h hp).i ⟨vi, vi, vi, vi, rfl, ?_⟩))
    rw [ix_nI (by omega), k1, k2, k3, k4]
    exact fin 68
theorem c_tellSwornTo (hc : LV lt v) (hs : WFV s) (h : VC v M s) (hp : p < 16) : AMv (d + 2) iX4_tellSwornTo [.ref lt, .ref v, .int (nI p)] M (fun M' => (M' (lt + 1) 6 = nI (tallS s p) ∧ M' (lt + 1) 7 = nI (s 2 p) ∧ M' (lt + 1) 8 = nI (s 3 p) ∧ M' (lt + 1) 9 = nI (s 1 p)) ∧ (∀ j, j < 6 ∨ 10 ≤ j → M' (lt + 1) j = M (lt + 1) j) ∧ ∀ k, k ≠ lt + 1 → M' k = M k) := by
  have vi : vp_in (nI p) 16 := vp_in_nI hp (by decide)
  have k1 : M (v + 1) p = nI (s 1 p) := h.2 1 p (by decide) (by decide) hp
  have k2 : M (v + 2) p = nI (s 2 p) := h.2 2 p (by decide) (by decide) hp
  have k3 : M (v + 3) p = nI (s 3 p) := h.2 3 p (by decide) (by decide) hp
  have fin : ∀ c : Nat, ((wr (wr (wr (wr M c 6 (nI (tallS s p))) c 7 (nI (s 2 p))) c 8 (nI (s 3 p))) c 9 (nI (s 1 p))) c 6 = nI (tallS s p) ∧ (wr (wr (wr (wr M c 6 (nI (tallS s p))) c 7 (nI (s 2 p))) c 8 (nI (s 3 p))) c 9 (nI (s 1 p))) c 7 = nI (s 2 p) ∧ (wr (wr (wr (wr M c 6 (nI (tallS s p))) c 7 (nI (s 2 p))) c 8 (nI (s 3 p))) c 9 (nI (s 1 p))) c 8 = nI (s 3 p) ∧ (wr (wr (wr (wr M c 6 (nI (tallS s p))) c 7 (nI (s 2 p))) c 8 (nI (s 3 p))) c 9 (nI (s 1 p))) c 9 = nI (s 1 p)) ∧ (∀ j, j < 6 ∨ 10 ≤ j → (wr (wr (wr (wr M c 6 (nI (tallS s p))) c 7 (nI (s 2 p))) c 8 (nI (s 3 p))) c 9 (nI (s 1 p))) c j = M c j) ∧ ∀ k, k ≠ c → (wr (wr (wr (wr M c 6 (nI (tallS s p))) c 7 (nI (s 2 p))) c 8 (nI (s 3 p))) c 9 (nI (s 1 p))) k = M k := by
    intro c
    refine ⟨⟨?_, ?_, ?_, ?_⟩, fun j hj => ?_, fun k hk => ?_⟩
    · simp [wr, va_up, upd]
    · simp [wr, va_up, upd]
    · simp [wr, va_up, upd]
    · simp [wr, va_up, upd]
    · rw [wr_el (by omega), wr_el (by omega), wr_el (by omega), wr_el (by omega)]
    · rw [wr_row hk, wr_row hk, wr_row hk, wr_row hk]
  rcases hc with ⟨rfl, rfl⟩ | ⟨rfl, rfl⟩ | ⟨rfl, rfl⟩ | ⟨rfl, rfl⟩
  · refine eX4_tellSwornTo_10_1 M _ (bX4_tellSwornTo_10_1_0 M _ ((c_heightOf isV_1 hs h hp).i ⟨vi, vi, vi, rfl, ?_⟩))
    rw [ix_nI (by omega), k1, k2, k3]
    exact fin 11
  · refine eX4_tellSwornTo_32_23 M _ (bX4_tellSwornTo_32_23_0 M _ ((c_heightOf isV_23 hs h hp).i ⟨vi, vi, vi, rfl, ?_⟩))
    rw [ix_nI (by omega), k1, k2, k3]
    exact fin 33
  · refine eX4_tellSwornTo_67_1 M _ (bX4_tellSwornTo_67_1_0 M _ ((c_heightOf isV_1 hs h hp).i ⟨vi, vi, vi, rfl, ?_⟩))
    rw [ix_nI (by omega), k1, k2, k3]
    exact fin 68
  · refine eX4_tellSwornTo_67_23 M _ (bX4_tellSwornTo_67_23_0 M _ ((c_heightOf isV_23 hs h hp).i ⟨vi, vi, vi, rfl, ?_⟩))
    rw [ix_nI (by omega), k1, k2, k3]
    exact fin 68
/-- what is read while STEPS are reckoned -/
def SX (M : Mem) (v la : Nat) (s l : VD) : Prop := M 62 5 = nI v ∧ M 62 6 = nI la ∧ VC v M s ∧ LC la M l ∧ M 68 10 = nI (s 0 3) ∧ M 68 11 = 0
def vS (v : Nat) : Prop := v = 1 ∨ v = 23
def aS (v : Nat) : Prop := v = 37 ∨ v = 45
theorem vS.iv (h : vS v) : isV v := h.elim (fun e => e ▸ isV_1) (fun e => e ▸ isV_23)
theorem vS.lv (h : vS v) : LV 67 v := h.elim (fun e => Or.inr (Or.inr (Or.inl ⟨rfl, e⟩))) (fun e => Or.inr (Or.inr (Or.inr ⟨rfl, e⟩)))
theorem aS.ia (h : aS la) : isA la := h.elim (fun e => e ▸ isA_37) (fun e => e ▸ isA_45)
theorem vS.n (h : vS v) : v ≤ 23 ∧ 1 ≤ v := by rcases h with rfl | rfl <;> omega
theorem aS.n (h : aS la) : la ≤ 45 ∧ 37 ≤ la := by rcases h with rfl | rfl <;> omega
theorem SX.cg {M M' : Mem} (hv : vS v) (ha : aS la) (h : SX M v la s l) (h5 : M' 62 5 = M 62 5) (h6 : M' 62 6 = M 62 6) (h10 : M' 68 10 = M 68 10) (h11 : M' 68 11 = M 68 11) (hf : ∀ k, k < 62 → k ≠ la + 7 → M' k = M k) : SX M' v la s l := by
  have n1 := hv.n
  have n2 := ha.n
  exact ⟨h5.trans h.1, h6.trans h.2.1, h.2.2.1.cg (hf v (by omega) (by omega)) (fun r q1 q2 => hf _ (by omega) (by omega)), h.2.2.2.1.cg (fun r q => hf _ (by omega) (by omega)), h10.trans h.2.2.2.2.1, h11.trans h.2.2.2.2.2⟩
/-- both told -/
theorem c_told (hv : vS v) (ha : aS la) (hs : WFV s) (h : SX M v la s l) {M1 M2 : Mem} (h1 : (∀ j, j < 6 → M1 (67 + 1) j = f1S s b 0 j) ∧ (∀ j, 6 ≤ j → M1 (67 + 1) j = M (67 + 1) j) ∧ ∀ k, k ≠ 67 + 1 → M1 k = M k) (h2 : (M2 (67 + 1) 6 = nI (tallS s a) ∧ M2 (67 + 1) 7 = nI (s 2 a) ∧ M2 (67 + 1) 8 = nI (s 3 a) ∧ M2 (67 + 1) 9 = nI (s 1 a)) ∧ (∀ j, j < 6 ∨ 10 ≤ j → M2 (67 + 1) j = M1 (67 + 1) j) ∧ ∀ k, k ≠ 67 + 1 → M2 k = M1 k) : (∀ j, j < 12 → M2 68 j = f2S s a b j) ∧ (∀ k, k ≠ 68 → M2 k = M k) ∧ SX M2 v la s l := by
  have g : ∀ k, k ≠ 68 → M2 k = M k := fun k hk => (h2.2.2 k hk).trans (h1.2.2 k hk)
  have e10 : M2 68 10 = M 68 10 := (h2.2.1 10 (by omega)).trans (h1.2.1 10 (by omega))
  have e11 : M2 68 11 = M 68 11 := (h2.2.1 11 (by omega)).trans (h1.2.1 11 (by omega))
  refine ⟨fun j hj => ?_, g, h.cg hv ha (by rw [g 62 (by omega)]) (by rw [g 62 (by omega)]) e10 e11 (fun k hk _ => g k (by omega))⟩
  have lo : ∀ j, j < 6 → M2 68 j = f1S s b 0 j := fun j hj => (h2.2.1 j (by omega)).trans (h1.1 j hj)
  match j, hj with
  | 0, _ => exact lo 0 (by omega)
  | 1, _ => exact lo 1 (by omega)
  | 2, _ => exact lo 2 (by omega)
  | 3, _ => exact lo 3 (by omega)
  | 4, _ => exact lo 4 (by omega)
  | 5, _ => exact lo 5 (by omega)
  | 6, _ => exact h2.1.1
  | 7, _ => exact h2.1.2.1
  | 8, _ => exact h2.1.2.2.1
  | 9, _ => exact h2.1.2.2.2
  | 10, _ => exact e10.trans h.2.2.2.2.1
  | 11, _ => exact e11.trans h.2.2.2.2.2
  | j + 12, h => omega
theorem hc68 : cellD 68 = .inr (.inl (false, 12)) := rfl
theorem c_isLet (hv : vS v) (ha : aS la) (hs : WFV s) (hl : WFL l) (h : SX M v la s l) (hH : ∀ p, p < s 0 0 → M 63 p = nI (tallS s p)) (qa : (s 0 1).testBit a = true) (qb : (s 0 1).testBit b = true) : AMi (d + 3) iX6_isLet [.ref 62, .int (nI a), .int (nI b)] M (fun r M' => r = (if EB s l a b then 1 else 0) ∧ M' 68 10 = M 68 10 ∧ M' 68 11 = M 68 11 ∧ ∀ k, k ≠ 68 → k ≠ la + 7 → M' k = M k) := by
  have hn := hs.1
  have hA := hs.lt qa
  have hB := hs.lt qb
  have n1 := hv.n
  have n2 := ha.n
  have va' : vp_in (nI a) 16 := vp_in_nI (by omega) (by decide)
  have vb' : vp_in (nI b) 16 := vp_in_nI (by omega) (by decide)
  have ta := tall_lt hs (p := a) (by omega)
  have tb := tall_lt hs (p := b) (by omega)
  have nE : ∀ q, (q → False) → (EB s l a b = true → q) → EB s l a b = false := fun q h1 h2 => by
    cases hE : EB s l a b with
    | false => rfl
    | true => exact (h1 (h2 hE)).elim
  have no : EB s l a b = false → ∃ x : Int32, some (0 : Int32) = some x ∧ x = (if EB s l a b then 1 else 0) ∧ M 68 10 = M 68 10 ∧ M 68 11 = M 68 11 ∧ ∀ k, k ≠ 68 → k ≠ la + 7 → M k = M k := fun e => ⟨_, rfl, by rw [e]; rfl, rfl, rfl, fun _ _ _ => rfl⟩
  have i5 : ix (M 62 5) = v := by rw [h.1, ix_nI (by omega)]
  have k1 : M (v + 1) b = nI (s 1 b) := h.2.2.1.2 1 b (by decide) (by decide) (show b < 16 by omega)
  have wb := hs.2.2.2.2.2.1 b (by omega)
  refine eX6_isLet M _ _ (bX6_isLet_0 hv.iv ha.ia M _ _ ⟨vb', va', ?_⟩)
  rw [ix_nI (n := a) (by omega), ix_nI (n := b) (by omega), hH a hA, hH b hB, k1]
  refine bq_le _ _ rfl rfl (by omega) (by omega) (fun q => no (nE _ (fun q2 => by omega) (fun e => (EB_t.mp e).2.2.1))) (fun qt => ⟨i5, vb', bq_ne _ 3 rfl rfl (by omega) (by omega) (fun qm => ⟨i5, ?_⟩) (fun q => no (nE _ (fun q2 => q2 q) (fun e => (EB_t.mp e).2.2.2.1)))⟩)
  refine (c_tellSwearer hv.lv hs h.2.2.1 (show b < 16 by omega)).mono (fun M1 h1 => ⟨by rw [h1.2.2 62 (by omega)]; exact i5, ?_⟩)
  have hV1 : VC v M1 s := h.2.2.1.cg (h1.2.2 _ (by omega)) (fun r q1 q2 => h1.2.2 _ (by omega))
  refine (c_tellSwornTo hv.lv hs hV1 (show a < 16 by omega)).mono (fun M2 h2 => ?_)
  obtain ⟨ff, g, h'⟩ := c_told hv ha hs h h1 h2
  refine ⟨by rw [h'.2.1, ix_nI (by omega)], ?_⟩
  refine (c_anyHolds (g := 110) ha.ia (by decide) hc68 (by omega) h'.2.2.2.1 hl (by omega)).mono (fun r M3 hr => ?_)
  obtain ⟨rfl, h3⟩ := hr
  have g3 : ∀ k, k ≠ 68 → k ≠ la + 7 → M3 k = M k := fun k q1 q2 => (h3 k q2).trans (g k q1)
  have e10 : M3 68 10 = M 68 10 := by rw [h3 68 (by omega), h'.2.2.2.2.1, h.2.2.2.2.1]
  have e11 : M3 68 11 = M 68 11 := by rw [h3 68 (by omega), h'.2.2.2.2.2, h.2.2.2.2.2]
  rw [anyL_cg hl ff]
  cases hA : anyL l (f2S s a b) 110 with
  | true =>
    refine ⟨fun _ => ⟨_, rfl, ?_, e10, e11, g3⟩, fun z => absurd z (by decide)⟩
    rw [nE _ (fun q => by rw [hA] at q; cases q) (fun e => (EB_t.mp e).2.2.2.2)]
    rfl
  | false =>
    refine ⟨fun z => absurd rfl z, fun _ => ⟨_, rfl, ?_, e10, e11, g3⟩⟩
    rw [EB_t.mpr ⟨qa, qb, qt, qm, hA⟩]
    rfl
theorem c_priceByLaw (hv : vS v) (ha : aS la) (hs : WFV s) (hl : WFL l) (h : SX M v la s l) (hA : a < s 0 0) (hB : b < s 0 0) : AMi (d + 3) iX6_priceByLaw [.ref 62, .int (nI a), .int (nI b)] M (fun r M' => r = nI (prN s l a b) ∧ M' 68 10 = M 68 10 ∧ M' 68 11 = M 68 11 ∧ ∀ k, k ≠ 68 → k ≠ la + 7 → M' k = M k) := by
  have hn := hs.1
  have n1 := hv.n
  have n2 := ha.n
  have vb' : vp_in (nI b) 16 := vp_in_nI (by omega) (by decide)
  have i5 : ix (M 62 5) = v := by rw [h.1, ix_nI (by omega)]
  have wb := hs.2.2.2.2.2.1 b (by omega)
  refine eX6_priceByLaw M _ _ (bX6_priceByLaw_0 hv.iv ha.ia M _ _ ⟨i5, ?_⟩)
  refine (c_tellSwearer hv.lv hs h.2.2.1 (show b < 16 by omega)).mono (fun M1 h1 => ⟨by rw [h1.2.2 62 (by omega)]; exact i5, ?_⟩)
  have hV1 : VC v M1 s := h.2.2.1.cg (h1.2.2 _ (by omega)) (fun r q1 q2 => h1.2.2 _ (by omega))
  refine (c_tellSwornTo hv.lv hs hV1 (show a < 16 by omega)).mono (fun M2 h2 => ?_)
  obtain ⟨ff, g, h'⟩ := c_told hv ha hs h h1 h2
  have j5 : ix (M2 62 5) = v := by rw [h'.1, ix_nI (by omega)]
  have j6 : ix (M2 62 6) = la := by rw [h'.2.1, ix_nI (by omega)]
  have k1 : M2 (v + 1) b = nI (s 1 b) := h'.2.2.1.2 1 b (by decide) (by decide) (show b < 16 by omega)
  have k5 : M2 (v + 5) b = nI (s 5 b) := h'.2.2.1.2 5 b (by decide) (by decide) (show b < 16 by omega)
  have fin : ∀ e, e = nI (if s 1 b = 1 then s 5 b else 0) → AX6_priceByLaw (d + 3) (fun r M' => ∃ x, r = some x ∧ x = nI (prN s l a b) ∧ M' 68 10 = M 68 10 ∧ M' 68 11 = M 68 11 ∧ ∀ k, k ≠ 68 → k ≠ la + 7 → M' k = M k) 50 [lR 62, none, none, none] [.int e] M2 := by
    intro e he
    refine bX6_priceByLaw_50 hv.iv ha.ia M2 _ ⟨j6, (c_firstWorth (g := 112) (most := 999) ha.ia (by decide) hc68 (by omega) h'.2.2.2.1 hl (Or.inr rfl) (by decide)).mono (fun r M3 hr => ?_)⟩
    obtain ⟨rfl, h3⟩ := hr
    refine ⟨_, rfl, ?_, ?_, ?_, fun k q1 q2 => (h3 k q2).trans (g k q1)⟩
    · rw [(pr_eq s l a b).1, he, fwL_cg hl (Or.inr rfl) ff]
    · rw [h3 68 (by omega), h'.2.2.2.2.1, h.2.2.2.2.1]
    · rw [h3 68 (by omega), h'.2.2.2.2.2, h.2.2.2.2.2]
  refine ⟨j5, vb', ?_⟩
  rw [ix_nI (n := b) (by omega), k1, k5]
  exact bq_ne _ 1 rfl rfl (by omega) (by omega) (fun z => fin _ (by rw [if_neg z]; rfl)) (fun z => ⟨j5, vb', fin _ (by rw [if_pos z])⟩)
/-- the living in their order -/
def ORD (s : VD) (p c : Nat) (u : Nat → Nat) : Prop := c ≤ p ∧ (∀ i, i < c → u i < p ∧ (s 0 1).testBit (u i) = true) ∧ (∀ x, x < p → (s 0 1).testBit x = true → ∃ i, i < c ∧ u i = x) ∧ ∀ i j, i < j → j < c → tallS s (u i) ≤ tallS s (u j)
theorem ORD.ins {c i : Nat} {u : Nat → Nat} (h : ORD s p c u) (hi : i ≤ c) (hp : (s 0 1).testBit p = true) (h1 : ∀ j, i ≤ j → j < c → tallS s p ≤ tallS s (u j)) (h2 : ∀ j, j < i → tallS s (u j) ≤ tallS s p) : ORD s (p + 1) (c + 1) (fun j => if j < i then u j else if j = i then p else u (j - 1)) := by
  refine ⟨by have := h.1; omega, fun j hj => ?_, fun x hx q => ?_, fun j k hjk hk => ?_⟩
  · show (if j < i then u j else if j = i then p else u (j - 1)) < p + 1 ∧ (s 0 1).testBit (if j < i then u j else if j = i then p else u (j - 1)) = true
    by_cases z : j < i
    · rw [if_pos z]; have := h.2.1 j (by omega); exact ⟨by omega, this.2⟩
    · rw [if_neg z]
      by_cases z2 : j = i
      · rw [if_pos z2]; exact ⟨by omega, hp⟩
      · rw [if_neg z2]; have := h.2.1 (j - 1) (by omega); exact ⟨by omega, this.2⟩
  · by_cases z : x = p
    · exact ⟨i, by omega, by show (if i < i then u i else if i = i then p else u (i - 1)) = x; rw [if_neg (by omega), if_pos rfl, z]⟩
    · obtain ⟨j, hj, e⟩ := h.2.2.1 x (by omega) q
      by_cases z2 : j < i
      · exact ⟨j, by omega, by show (if j < i then u j else if j = i then p else u (j - 1)) = x; rw [if_pos z2, e]⟩
      · refine ⟨j + 1, by omega, ?_⟩
        show (if j + 1 < i then u (j + 1) else if j + 1 = i then p else u (j + 1 - 1)) = x
        rw [if_neg (by omega), if_neg (by omega), Nat.add_sub_cancel, e]
  · show tallS s (if j < i then u j else if j = i then p else u (j - 1)) ≤ tallS s (if k < i then u k else if k = i then p else u (k - 1))
    by_cases z : k < i
    · rw [if_pos z, if_pos (by omega)]; exact h.2.2.2 j k hjk (by omega)
    · rw [if_neg z]
      by_cases z2 : k = i
      · rw [if_pos z2, if_pos (by omega)]; exact h2 j (by omega)
      · rw [if_neg z2]
        by_cases z3 : j < i
        · rw [if_pos z3]
          by_cases z4 : j = k - 1
          · rw [z4]; exact Nat.le_refl _
          · exact h.2.2.2 j (k - 1) (by omega) (by omega)
        · rw [if_neg z3]
          by_cases z4 : j = i
          · rw [if_pos z4]; exact h1 (k - 1) (by omega) (by omega)
          · rw [if_neg z4]; exact h.2.2.2 (j - 1) (k - 1) (by omega) (by omega)
def OF (M M' : Mem) : Prop := (∀ k, k ≠ 62 → k ≠ 63 → k ≠ 64 → M' k = M k) ∧ ∀ j, j ≠ 7 → M' 62 j = M 62 j
theorem c_orderUpward (hv : vS v) (hs : WFV s) (h5 : M 62 5 = nI v) (h : VC v M s) : AMv (d + 2) iX6_orderUpward [.ref 62] M (fun M' => (∃ c u, M' 62 7 = nI c ∧ (∀ i, i < c → M' 64 i = nI (u i)) ∧ ORD s (s 0 0) c u) ∧ (∀ p, p < s 0 0 → M' 63 p = nI (tallS s p)) ∧ OF M M') := by
  have hn := hs.1
  have n1 := hv.n
  have hlv := hs.live
  refine eX6_orderUpward M (bX6_orderUpward_0 hv.iv isA_37 M ?_)
  refine up_loop (P := fun p => ∀ M' c u, M' 62 7 = nI c → (∀ i, i < c → M' 64 i = nI (u i)) → ORD s p c u → (∀ q, q < p → M' 63 q = nI (tallS s q)) → OF M M' → AX6_orderUpward (d + 2) (fun r M' => r = none ∧ (∃ c u, M' 62 7 = nI c ∧ (∀ i, i < c → M' 64 i = nI (u i)) ∧ ORD s (s 0 0) c u) ∧ (∀ p, p < s 0 0 → M' 63 p = nI (tallS s p)) ∧ OF M M') 7 [lR 62, lI (nI p), none, none] [] M') (s 0 0) 0 (by omega) ?_ ?_ _ 0 (fun _ => 0) (wr_same _ _ _ _) (fun i hi => by omega) ⟨Nat.le_refl _, fun i hi => by omega, fun x hx => by omega, fun i j _ hj => by omega⟩ (fun q hq => by omega) ⟨fun k q1 _ _ => wr_row q1, fun j hj => wr_el hj⟩
  · intro M' c u e1 e2 e3 e4 e5
    have i5 : ix (M' 62 5) = v := by rw [e5.2 5 (by omega), h5, ix_nI (by omega)]
    have kn : M' v 7 = nI (s 0 0) := by rw [e5.1 v (by omega) (by omega) (by omega)]; exact h.1 0 (by decide)
    refine bX6_orderUpward_7 hv.iv isA_37 M' _ ⟨i5, ?_⟩
    rw [kn]
    exact bq_le _ _ rfl rfl (by omega) (by omega) (fun _ => ⟨rfl, ⟨c, u, e1, e2, e3⟩, e4, e5⟩) (fun z => by omega)
  · intro p _ hp ih M' c u e1 e2 e3 e4 e5
    have hV : VC v M' s := h.cg (e5.1 v (by omega) (by omega) (by omega)) (fun r q1 q2 => e5.1 _ (by omega) (by omega) (by omega))
    have i5 : ix (M' 62 5) = v := by rw [e5.2 5 (by omega), h5, ix_nI (by omega)]
    have kn : M' v 7 = nI (s 0 0) := hV.1 0 (by decide)
    have kl : M' v 8 = nI (s 0 1) := hV.1 1 (by decide)
    have vp : vp_in (nI p) 16 := vp_in_nI (by omega) (by decide)
    have hc := e3.1
    refine bX6_orderUpward_7 hv.iv isA_37 M' _ ⟨i5, ?_⟩
    rw [kn]
    refine bq_le _ _ rfl rfl (by omega) (by omega) (fun z => by omega) (fun _ => ⟨i5, (c_heightOf hv.iv hs hV (by omega)).i ⟨vp, ?_⟩⟩)
    rw [ix_nI (n := p) (by omega)]
    generalize hM1 : wr M' 63 p (nI (tallS s p)) = M1
    have g1 : ∀ k, k ≠ 63 → M1 k = M' k := fun k hk => by rw [← hM1]; exact wr_row hk
    have h63 : ∀ q, q < p + 1 → M1 63 q = nI (tallS s q) := by
      intro q hq
      rw [← hM1]
      by_cases z : q = p
      · rw [z]; exact wr_same _ _ _ _
      · rw [wr_el z]; exact e4 q (by omega)
    have e5' : OF M M1 := ⟨fun k q1 q2 q3 => (g1 k q2).trans (e5.1 k q1 q2 q3), fun j hj => by rw [g1 62 (by omega)]; exact e5.2 j hj⟩
    rw [g1 62 (by omega), g1 v (by omega), kn, kl, nI_1 p, e1]
    refine ⟨i5, bq_liv _ _ p rfl rfl rfl hn (by omega) hp (fun q => ?_) (fun q => ?_)⟩
    · refine ih M1 c u (by rw [g1 62 (by omega)]; exact e1) (fun i hi => by rw [g1 64 (by omega)]; exact e2 i hi) ⟨by omega, fun i hi => by have := e3.2.1 i hi; exact ⟨by omega, this.2⟩, fun x hx q2 => ?_, e3.2.2.2⟩ h63 e5'
      by_cases z : x = p
      · rw [z, q] at q2; cases q2
      · exact e3.2.2.1 x (by omega) q2
    · have fin : ∀ i M2, i ≤ c → (∀ j, j < i → M2 64 j = nI (u j)) → (∀ j, i < j → j ≤ c → M2 64 j = nI (u (j - 1))) → (∀ j, i ≤ j → j < c → tallS s p ≤ tallS s (u j)) → (∀ j, j < i → tallS s (u j) ≤ tallS s p) → (∀ k, k ≠ 64 → M2 k = M1 k) → AX6_orderUpward (d + 2) (fun r M' => r = none ∧ (∃ c u, M' 62 7 = nI c ∧ (∀ i, i < c → M' 64 i = nI (u i)) ∧ ORD s (s 0 0) c u) ∧ (∀ p, p < s 0 0 → M' 63 p = nI (tallS s p)) ∧ OF M M') 103 [lR 62, lI (nI p), lI (nI i), none] [] M2 := by
        intro i M2 hi a1 a2 a3 a4 a5
        refine bX6_orderUpward_103 hv.iv isA_37 M2 _ _ ⟨vp_in_nI (by omega) (by decide), ?_⟩
        have e17 : M2 62 7 = nI c := by rw [a5 62 (by omega), g1 62 (by omega)]; exact e1
        rw [e17, nI_1 c, nI_1 p, ix_nI (by omega)]
        refine ih _ (c + 1) _ (wr_same _ _ _ _) (fun j hj => ?_) (e3.ins hi q a3 a4) (fun x hx => ?_) ⟨fun k q1 q2 q3 => ?_, fun j hj => ?_⟩
        · rw [wr_row (by omega)]
          show _ = nI (if j < i then u j else if j = i then p else u (j - 1))
          by_cases z : j = i
          · rw [if_neg (by omega), if_pos z, z]; exact wr_same _ _ _ _
          · rw [wr_el z]
            by_cases z2 : j < i
            · rw [if_pos z2]; exact a1 j z2
            · rw [if_neg z2, if_neg z]; exact a2 j (by omega) (by omega)
        · rw [wr_row (by omega), wr_row (by omega), a5 63 (by omega)]; exact h63 x hx
        · rw [wr_row q1, wr_row q3, a5 k q3]; exact e5'.1 k q1 q2 q3
        · rw [wr_el hj, wr_row (by omega), a5 62 (by omega)]; exact e5'.2 j hj
      have loop : ∀ i M2, i ≤ c → (∀ j, j < i → M2 64 j = nI (u j)) → (∀ j, i < j → j ≤ c → M2 64 j = nI (u (j - 1))) → (∀ j, i ≤ j → j < c → tallS s p ≤ tallS s (u j)) → (∀ k, k ≠ 64 → M2 k = M1 k) → AX6_orderUpward (d + 2) (fun r M' => r = none ∧ (∃ c u, M' 62 7 = nI c ∧ (∀ i, i < c → M' 64 i = nI (u i)) ∧ ORD s (s 0 0) c u) ∧ (∀ p, p < s 0 0 → M' 63 p = nI (tallS s p)) ∧ OF M M') 53 [lR 62, lI (nI p), lI (nI i), lI (nI i)] [] M2 := by
        intro i
        induction i with
        | zero =>
          intro M2 hi a1 a2 a3 a5
          exact bX6_orderUpward_53 hv.iv isA_37 M2 _ _ _ ⟨fun _ => fin 0 M2 hi a1 a2 a3 (fun j hj => by omega) a5, fun z => absurd (Int32.le_refl _) z⟩
        | succ i ihi =>
          intro M2 hi a1 a2 a3 a5
          have ui := e3.2.1 i (by omega)
          have tu := tall_lt hs (p := u i) (by omega)
          have tp := tall_lt hs (p := p) (by omega)
          refine bX6_orderUpward_53 hv.iv isA_37 M2 _ _ _ ?_
          rw [nI_pred, pk_m1, ix_nI (n := i) (by omega), a1 i (by omega), ix_nI (n := u i) (by omega), ix_nI (n := p) (by omega), ix_nI (n := i + 1) (by omega), a5 63 (by omega), h63 p (by omega), h63 (u i) (by omega)]
          refine bq_le (i + 1) 0 rfl rfl (by omega) (by omega) (fun z => by omega) (fun _ => ⟨vp_in_nI (by omega) (by decide), vp_in_nI (by omega) (by decide), vp, bq_le _ _ rfl rfl (by omega) (by omega) (fun z => ?_) (fun z => ⟨vp_in_nI (by omega) (by decide), vp_in_nI (by omega) (by decide), ?_⟩)⟩)
          · refine fin (i + 1) M2 hi a1 a2 a3 (fun j hj => ?_) a5
            by_cases zz : j = i
            · rw [zz]; exact z
            · exact Nat.le_trans (e3.2.2.2 j i (by omega) (by omega)) z
          · refine ihi _ (by omega) (fun j hj => ?_) (fun j q1 q2 => ?_) (fun j q1 q2 => ?_) (fun k hk => (wr_row hk).trans (a5 k hk))
            · rw [wr_el (by omega)]; exact a1 j (by omega)
            · by_cases zz : j = i + 1
              · rw [zz]; exact wr_same _ _ _ _
              · rw [wr_el zz]; exact a2 j (by omega) q2
            · by_cases zz : j = i
              · rw [zz]; omega
              · exact a3 j (by omega) q2
      exact loop c M1 (Nat.le_refl _) (fun j hj => by rw [g1 64 (by omega)]; exact e2 j hj) (fun j q1 q2 => by omega) (fun j q1 q2 => by omega) (fun _ _ => rfl)
end CS
