abbrev lI (x : Int32) : Option Value := some (.int x)
abbrev lR (k : Nat) : Option Value := some (.ref k)
def AMi (d : Nat) (mi : MI) (av : List Value) (M : Mem) (P : Int32 → Mem → Prop) : Prop := AM d mi av M (fun r M' => ∃ x, r = some x ∧ P x M')
def AMv (d : Nat) (mi : MI) (av : List Value) (M : Mem) (P : Mem → Prop) : Prop := AM d mi av M (fun r M' => r = none ∧ P M')
/-- a method that only answers -/
def AMp (d : Nat) (mi : MI) (av : List Value) (M : Mem) (x : Int32) : Prop := AM d mi av M (fun r M' => some x = r ∧ M = M')
theorem AMi.mono {d : Nat} {mi : MI} {av : List Value} {M : Mem} {P P' : Int32 → Mem → Prop} (h : AMi d mi av M P) (hq : ∀ x M', P x M' → P' x M') : AMi d mi av M P' := AM.mono h (fun r M' ⟨x, e, p⟩ => ⟨x, e, hq x M' p⟩)
theorem AMv.mono {d : Nat} {mi : MI} {av : List Value} {M : Mem} {P P' : Mem → Prop} (h : AMv d mi av M P) (hq : ∀ M', P M' → P' M') : AMv d mi av M P' := AM.mono h (fun r M' ⟨e, p⟩ => ⟨e, hq M' p⟩)
theorem AMp.i {d : Nat} {mi : MI} {av : List Value} {M : Mem} {x : Int32} {P : Int32 → Mem → Prop} (h : AMp d mi av M x) (hq : P x M) : AMi d mi av M P := AM.mono h (fun r M' ⟨e, p⟩ => ⟨x, e.symm, by subst p; exact hq⟩)
theorem AM.of2 {d : Nat} {mi : MI} {av : List Value} {M : Mem} {Q : Option Int32 → Mem → Prop} (hy : plainName mi.1.cls = true) (hcat : av.all (fun v => v.category == 1) = true) (hlen : Nat.ble av.length mi.2.2.1 = true) (h : AW none mi.1.cls mi.2.1 mi.2.2.1 mi.2.2.2 d Q 0 (av.map some ++ List.replicate (mi.2.2.1 - av.length) none) [] M) : AM d mi av M Q := AM.of hy (fun v hv => by have := List.all_eq_true.mp hcat v hv; simpa using this) (Nat.le_of_ble_eq_true hlen) h
theorem nar_b {x : Int32} (h : x = 0 ∨ x = 1) : narrow .boolean (.int x) = .int x := by rcases h with rfl | rfl <;> rfl
theorem fit_b {x : Int32} (h : x = 0 ∨ x = 1) : fits .boolean (.int x) = true := by rcases h with rfl | rfl <;> rfl
theorem sw_ne {x k : Int32} (h : ¬ x = k) : ¬ x.toInt = k.toInt := fun e => h (Int32.toInt_inj.mp e)
/-- a row's beginning copied from another row -/
def cp (M : Mem) (k1 k0 n : Nat) : Mem := va_up M k1 (va_cpy (M k0) (M k1) 0 0 n)
theorem ix_nI {n : Nat} (h : n < 2 ^ 31) : ix (nI n) = n := nI_clamp h
theorem wr_same (M : Mem) (k j : Nat) (x : Int32) : wr M k j x k j = x := by show (if k = k then upd (M k) j x else M k) j = x; rw [if_pos rfl]; exact pk_us
theorem wr_row {M : Mem} {k k' j : Nat} {x : Int32} (h : k' ≠ k) : wr M k j x k' = M k' := if_neg h
theorem wr_el {M : Mem} {k j j' : Nat} {x : Int32} (h : j' ≠ j) : wr M k j x k j' = M k j' := by show (if k = k then upd (M k) j x else M k) j' = _; rw [if_pos rfl]; exact pk_un h
theorem wr_k {M : Mem} {k j : Nat} {x : Int32} : wr M k j x k = upd (M k) j x := if_pos rfl
def isV (v : Nat) : Prop := v = 1 ∨ v = 12 ∨ v = 23
theorem cV0 {v : Nat} (h : isV v) : cellD v = .inl (8, [.inl (v + 1), .inl (v + 2), .inl (v + 3), .inl (v + 4), .inl (v + 5), .inl (v + 6), .inl (v + 7), .inr false, .inr false, .inr false, .inr false, .inr false, .inl (v + 8), .inl (v + 9)]) := by rcases h with rfl | rfl | rfl <;> rfl
theorem kV0 {v : Nat} (h : isV v) : v < K0 := by rcases h with rfl | rfl | rfl <;> decide
theorem cV1 {v : Nat} (h : isV v) : cellD (v + 1) = .inr (.inl (false, 16)) := by rcases h with rfl | rfl | rfl <;> rfl
theorem kV1 {v : Nat} (h : isV v) : (v + 1) < K0 := by rcases h with rfl | rfl | rfl <;> decide
theorem cV2 {v : Nat} (h : isV v) : cellD (v + 2) = .inr (.inl (false, 16)) := by rcases h with rfl | rfl | rfl <;> rfl
theorem kV2 {v : Nat} (h : isV v) : (v + 2) < K0 := by rcases h with rfl | rfl | rfl <;> decide
theorem cV3 {v : Nat} (h : isV v) : cellD (v + 3) = .inr (.inl (false, 16)) := by rcases h with rfl | rfl | rfl <;> rfl
theorem kV3 {v : Nat} (h : isV v) : (v + 3) < K0 := by rcases h with rfl | rfl | rfl <;> decide
theorem cV4 {v : Nat} (h : isV v) : cellD (v + 4) = .inr (.inl (false, 16)) := by rcases h with rfl | rfl | rfl <;> rfl
theorem kV4 {v : Nat} (h : isV v) : (v + 4) < K0 := by rcases h with rfl | rfl | rfl <;> decide
theorem cV5 {v : Nat} (h : isV v) : cellD (v + 5) = .inr (.inl (false, 16)) := by rcases h with rfl | rfl | rfl <;> rfl
theorem kV5 {v : Nat} (h : isV v) : (v + 5) < K0 := by rcases h with rfl | rfl | rfl <;> decide
theorem cV6 {v : Nat} (h : isV v) : cellD (v + 6) = .inr (.inl (false, 12)) := by rcases h with rfl | rfl | rfl <;> rfl
theorem kV6 {v : Nat} (h : isV v) : (v + 6) < K0 := by rcases h with rfl | rfl | rfl <;> decide
theorem cV7 {v : Nat} (h : isV v) : cellD (v + 7) = .inr (.inl (false, 12)) := by rcases h with rfl | rfl | rfl <;> rfl
theorem kV7 {v : Nat} (h : isV v) : (v + 7) < K0 := by rcases h with rfl | rfl | rfl <;> decide
theorem cV8 {v : Nat} (h : isV v) : cellD (v + 8) = .inr (.inl (false, 16)) := by rcases h with rfl | rfl | rfl <;> rfl
theorem kV8 {v : Nat} (h : isV v) : (v + 8) < K0 := by rcases h with rfl | rfl | rfl <;> decide
theorem cV9 {v : Nat} (h : isV v) : cellD (v + 9) = .inl (4, [.inl (v + 10)]) := by rcases h with rfl | rfl | rfl <;> rfl
theorem kV9 {v : Nat} (h : isV v) : (v + 9) < K0 := by rcases h with rfl | rfl | rfl <;> decide
theorem cV10 {v : Nat} (h : isV v) : cellD (v + 10) = .inr (.inl (false, 12)) := by rcases h with rfl | rfl | rfl <;> rfl
theorem kV10 {v : Nat} (h : isV v) : (v + 10) < K0 := by rcases h with rfl | rfl | rfl <;> decide
theorem sV0 {v : Nat} (h : isV v) : v < 2 ^ 31 := by rcases h with rfl | rfl | rfl <;> decide
def isA (v : Nat) : Prop := v = 37 ∨ v = 45 ∨ v = 53
theorem cA0 {v : Nat} (h : isA v) : cellD v = .inl (2, [.inr false, .inr false, .inl (v + 1), .inl (v + 2), .inl (v + 3), .inl (v + 4), .inl (v + 5), .inl (v + 6), .inl (v + 7)]) := by rcases h with rfl | rfl | rfl <;> rfl
theorem kA0 {v : Nat} (h : isA v) : v < K0 := by rcases h with rfl | rfl | rfl <;> decide
theorem cA1 {v : Nat} (h : isA v) : cellD (v + 1) = .inr (.inl (false, 160)) := by rcases h with rfl | rfl | rfl <;> rfl
theorem kA1 {v : Nat} (h : isA v) : (v + 1) < K0 := by rcases h with rfl | rfl | rfl <;> decide
theorem cA2 {v : Nat} (h : isA v) : cellD (v + 2) = .inr (.inl (false, 160)) := by rcases h with rfl | rfl | rfl <;> rfl
theorem kA2 {v : Nat} (h : isA v) : (v + 2) < K0 := by rcases h with rfl | rfl | rfl <;> decide
theorem cA3 {v : Nat} (h : isA v) : cellD (v + 3) = .inr (.inl (false, 12)) := by rcases h with rfl | rfl | rfl <;> rfl
theorem kA3 {v : Nat} (h : isA v) : (v + 3) < K0 := by rcases h with rfl | rfl | rfl <;> decide
theorem cA4 {v : Nat} (h : isA v) : cellD (v + 4) = .inr (.inl (false, 12)) := by rcases h with rfl | rfl | rfl <;> rfl
theorem kA4 {v : Nat} (h : isA v) : (v + 4) < K0 := by rcases h with rfl | rfl | rfl <;> decide
theorem cA5 {v : Nat} (h : isA v) : cellD (v + 5) = .inr (.inl (false, 12)) := by rcases h with rfl | rfl | rfl <;> rfl
theorem kA5 {v : Nat} (h : isA v) : (v + 5) < K0 := by rcases h with rfl | rfl | rfl <;> decide
theorem cA6 {v : Nat} (h : isA v) : cellD (v + 6) = .inr (.inl (false, 12)) := by rcases h with rfl | rfl | rfl <;> rfl
theorem kA6 {v : Nat} (h : isA v) : (v + 6) < K0 := by rcases h with rfl | rfl | rfl <;> decide
theorem cA7 {v : Nat} (h : isA v) : cellD (v + 7) = .inr (.inl (false, 32)) := by rcases h with rfl | rfl | rfl <;> rfl
theorem kA7 {v : Nat} (h : isA v) : (v + 7) < K0 := by rcases h with rfl | rfl | rfl <;> decide
theorem sA0 {v : Nat} (h : isA v) : v < 2 ^ 31 := by rcases h with rfl | rfl | rfl <;> decide
def isT (v : Nat) : Prop := v = 10 ∨ v = 21 ∨ v = 32 ∨ v = 67
theorem cT0 {v : Nat} (h : isT v) : cellD v = .inl (4, [.inl (v + 1)]) := by rcases h with rfl | rfl | rfl | rfl <;> rfl
theorem kT0 {v : Nat} (h : isT v) : v < K0 := by rcases h with rfl | rfl | rfl | rfl <;> decide
theorem cT1 {v : Nat} (h : isT v) : cellD (v + 1) = .inr (.inl (false, 12)) := by rcases h with rfl | rfl | rfl | rfl <;> rfl
theorem kT1 {v : Nat} (h : isT v) : (v + 1) < K0 := by rcases h with rfl | rfl | rfl | rfl <;> decide
theorem sT0 {v : Nat} (h : isT v) : v < 2 ^ 31 := by rcases h with rfl | rfl | rfl | rfl <;> decide
/-- a loop that counts up -/
theorem up_loop {P : Nat → Prop} (N : Nat) (a : Nat) (ha : a ≤ N) (hN : P N) (hs : ∀ i, a ≤ i → i < N → P (i + 1) → P i) : P a := by
  obtain ⟨k, rfl⟩ : ∃ k, N = a + k := ⟨N - a, by omega⟩
  clear ha
  induction k with
  | zero => exact hN
  | succ k ih => exact ih (hs (a + k) (by omega) (by omega) hN) (fun i h1 h2 h3 => hs i h1 (by omega) h3)
/-- a loop with a measure -/
theorem ms_loop {σ : Type} {P I : σ → Prop} (μ : σ → Nat) (hs : ∀ s, I s → (∀ s', I s' → μ s' < μ s → P s') → P s) (s : σ) (h : I s) : P s := by
  have key : ∀ n, ∀ s, μ s < n → I s → P s := by
    intro n
    induction n with
    | zero => intro s h; omega
    | succ n ih => intro s h1 h2; exact hs s h2 (fun s' a b => ih s' (by omega) a)
  exact key (μ s + 1) s (by omega) h
