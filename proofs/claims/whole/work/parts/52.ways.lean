/-! WAYS TO THE TOP -/
def akN (s l : VD) (T a b : Nat) : Nat := if T.testBit b then 0 else prN s l a b
def wyN (s l : VD) (T : Nat) (W : Nat → Nat) (a b : Nat) : Nat := if EB s l a b = true ∧ W b < 1000000000 then 32 * akN s l T a b + 1 + W b else 1000000000
def mnTo (s l : VD) (T : Nat) (W : Nat → Nat) (a : Nat) : Nat → Nat
  | 0 => 1000000000
  | b + 1 => min (mnTo s l T W a b) (wyN s l T W a b)
def eqW (s l : VD) (T : Nat) (W : Nat → Nat) (a : Nat) : Nat := if a = topS s then 0 else mnTo s l T W a 16
/-- how many are taller -/
def rk (s : VD) (a : Nat) : Nat := fb_ct (fun q => (s 0 1).testBit q && decide (tallS s a < tallS s q)) 16
theorem ct_lt {p q : Nat → Bool} {n i : Nat} (h : ∀ k, k < n → p k = true → q k = true) (hi : i < n) (h1 : q i = true) (h2 : p i = false) : fb_ct p n < fb_ct q n := by
  have u := fb_ct_upd p true (i := i) hi
  have s := fb_ct_sub (p := fun k => if k = i then true else p k) (q := q) (n := n) (fun k hk e => by
    by_cases z : k = i
    · rw [z]; exact h1
    · exact h k hk (by rw [if_neg z] at e; exact e))
  have e0 : (if p i then 1 else 0) = 0 := by rw [h2]; rfl
  have u' : fb_ct (fun k => if k = i then true else p k) n + (if p i then 1 else 0) = fb_ct p n + 1 := u
  rw [e0] at u'
  omega
theorem rk_lt {s l : VD} (hs : WFV s) {a b : Nat} (h : EB s l a b = true) : rk s b < rk s a := by
  have t := EB_t.mp h
  have tt := t.2.2.1
  have hb := (EB_lt hs h).2
  have hn := hs.1
  refine ct_lt (i := b) (fun k _ e => ?_) (by omega) ?_ ?_
  · rw [Bool.and_eq_true, decide_eq_true_eq] at e ⊢
    exact ⟨e.1, by omega⟩
  · rw [t.2.1, decide_eq_true tt]; rfl
  · rw [decide_eq_false (by omega), Bool.and_false]
theorem rk_le (s : VD) (a : Nat) : rk s a ≤ 16 := fb_ct_le _ _
section WW
variable {s l : VD} {T : Nat}
theorem wy_cg {W W' : Nat → Nat} {a b : Nat} (h : EB s l a b = true → W b = W' b) : wyN s l T W a b = wyN s l T W' a b := by
  rw [wyN, wyN]
  by_cases e : EB s l a b = true
  · rw [h e]
  · rw [if_neg (fun w => e w.1), if_neg (fun w => e w.1)]
theorem mn_cg {W W' : Nat → Nat} {a : Nat} (h : ∀ b, EB s l a b = true → W b = W' b) : ∀ n, mnTo s l T W a n = mnTo s l T W' a n
  | 0 => rfl
  | n + 1 => by rw [mnTo, mnTo, mn_cg h n, wy_cg (h n)]
theorem W_ex (hs : WFV s) : ∃ W : Nat → Nat, ∀ a, W a = eqW s l T W a := by
  have key : ∀ k, ∃ W : Nat → Nat, ∀ a, rk s a < k → W a = eqW s l T W a := by
    intro k
    induction k with
    | zero => exact ⟨fun _ => 0, fun a h => by omega⟩
    | succ k ih =>
      obtain ⟨W, hW⟩ := ih
      refine ⟨fun a => if rk s a < k then W a else eqW s l T W a, fun a ha => ?_⟩
      have e : eqW s l T (fun a => if rk s a < k then W a else eqW s l T W a) a = eqW s l T W a := by
        rw [eqW, eqW, mn_cg (fun b hb => ?_)]
        have := rk_lt hs hb
        exact if_pos (by omega)
      show (if rk s a < k then W a else eqW s l T W a) = _
      rw [e]
      by_cases q : rk s a < k
      · rw [if_pos q]; exact hW a q
      · rw [if_neg q]
  obtain ⟨W, hW⟩ := key 17
  exact ⟨W, fun a => hW a (by have := rk_le s a; omega)⟩
theorem wy_le (W : Nat → Nat) (a b : Nat) : wyN s l T W a b = 1000000000 ∨ (EB s l a b = true ∧ W b < 1000000000 ∧ wyN s l T W a b = 32 * akN s l T a b + 1 + W b) := by
  rw [wyN]
  by_cases h : EB s l a b = true ∧ W b < 1000000000
  · rw [if_pos h]; exact Or.inr ⟨h.1, h.2, rfl⟩
  · rw [if_neg h]; exact Or.inl rfl
theorem mn_le (W : Nat → Nat) (a : Nat) : ∀ n, mnTo s l T W a n ≤ 1000000000 ∧ ∀ b, b < n → mnTo s l T W a n ≤ wyN s l T W a b
  | 0 => ⟨Nat.le_refl _, fun b hb => by omega⟩
  | n + 1 => by
    obtain ⟨h1, h2⟩ := mn_le W a n
    rw [mnTo]
    refine ⟨by omega, fun b hb => ?_⟩
    by_cases e : b = n
    · rw [e]; omega
    · have := h2 b (by omega); omega
theorem mn_at (W : Nat → Nat) (a : Nat) : ∀ n, mnTo s l T W a n = 1000000000 ∨ ∃ b, b < n ∧ mnTo s l T W a n = wyN s l T W a b
  | 0 => Or.inl rfl
  | n + 1 => by
    have hl := mn_le (s := s) (l := l) (T := T) W a n
    rw [mnTo]
    by_cases q : mnTo s l T W a n ≤ wyN s l T W a n
    · rw [Nat.min_eq_left q]
      rcases mn_at W a n with h | ⟨b, h1, h2⟩
      · exact Or.inl h
      · exact Or.inr ⟨b, by omega, h2⟩
    · rw [Nat.min_eq_right (by omega)]
      exact Or.inr ⟨n, by omega, rfl⟩
theorem ak_le (hs : WFV s) {a b : Nat} (h : EB s l a b = true) : akN s l T a b ≤ 1998 := by
  have := (EB_lt hs h).2
  have := hs.1
  have := pr_le (l := l) (a := a) hs (b := b) (by omega)
  rw [akN]
  split <;> omega
/-- a way is short -/
theorem W_sm (hs : WFV s) {W : Nat → Nat} (hW : ∀ a, W a = eqW s l T W a) : ∀ k a, rk s a < k → W a = 1000000000 ∨ (W a % 32 ≤ rk s a ∧ W a / 32 ≤ 1998 * rk s a)
  | 0, a, h => by omega
  | k + 1, a, h => by
    by_cases q : a = topS s
    · right; rw [hW a, eqW, if_pos q]; exact ⟨by omega, by omega⟩
    · have e : W a = mnTo s l T W a 16 := by rw [hW a, eqW, if_neg q]
      rcases mn_at (s := s) (l := l) (T := T) W a 16 with h1 | ⟨b, h1, h2⟩
      · exact Or.inl (e.trans h1)
      · rcases wy_le (s := s) (l := l) (T := T) W a b with h3 | ⟨h3, h4, h5⟩
        · exact Or.inl (e.trans (h2.trans h3))
        · right
          have r := rk_lt hs h3
          have ra := rk_le s a
          have ak := ak_le (T := T) hs h3
          have := W_sm hs hW k b (by omega)
          rw [e, h2, h5]
          rcases this with w | ⟨w1, w2⟩
          · omega
          · have e1 : (32 * akN s l T a b + 1 + W b) % 32 = W b % 32 + 1 := by omega
            have e2 : (32 * akN s l T a b + 1 + W b) / 32 = akN s l T a b + W b / 32 := by omega
            rw [e1, e2]
            exact ⟨by omega, by omega⟩
theorem W_sml (hs : WFV s) {W : Nat → Nat} (hW : ∀ a, W a = eqW s l T W a) (a : Nat) : W a = 1000000000 ∨ (W a % 32 ≤ 16 ∧ W a / 32 ≤ 31968) := by
  have := W_sm hs hW 17 a (by have := rk_le s a; omega)
  have := rk_le s a
  omega
theorem W_top {W : Nat → Nat} (hW : ∀ a, W a = eqW s l T W a) : W (topS s) = 0 := by rw [hW, eqW, if_pos rfl]
theorem W_mn {W : Nat → Nat} (hW : ∀ a, W a = eqW s l T W a) {a : Nat} (h : ¬ a = topS s) : W a = mnTo s l T W a 16 := by rw [hW, eqW, if_neg h]
end WW
