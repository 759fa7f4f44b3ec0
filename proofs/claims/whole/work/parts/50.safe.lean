/-! SAFE -/
def prTo (s l : VD) (T set : Nat) : Nat → Nat
  | 0 => 0
  | k + 1 => if set.testBit k then (if prTo s l T set k = 1000000000 ∨ lbN s l (T ||| set) k (s 0 0) = 1000000000 then 1000000000 else prTo s l T set k + lbN s l (T ||| set) k (s 0 0)) else prTo s l T set k
def prA (s l : VD) (T set : Nat) : Nat := prTo s l T set (s 0 0)
theorem prTo_le {s l : VD} (hs : WFV s) {T set : Nat} : ∀ k, prTo s l T set k ≤ 1998 * k ∨ prTo s l T set k = 1000000000
  | 0 => Or.inl (Nat.le_refl _)
  | k + 1 => by
    have h1 := prTo_le hs (l := l) (T := T) (set := set) k
    have h2 := lbN_le hs (l := l) (set := T ||| set) (p := k) (s 0 0)
    rw [prTo]
    split
    · split
      · exact Or.inr rfl
      · left; omega
    · omega
theorem prTo_far {s l : VD} {T set a : Nat} (h : prTo s l T set a = 1000000000) : ∀ m, prTo s l T set (a + m) = 1000000000
  | 0 => h
  | m + 1 => by
    show prTo s l T set ((a + m) + 1) = _
    have := prTo_far h m
    rw [prTo, this]
    split
    · rw [if_pos (Or.inl rfl)]
    · rfl
theorem prTo_hi {s l : VD} {T set a : Nat} (h : set < 2 ^ a) : ∀ m, prTo s l T set (a + m) = prTo s l T set a
  | 0 => rfl
  | m + 1 => by
    show prTo s l T set ((a + m) + 1) = _
    have e : set.testBit (a + m) = false := by
      cases e : set.testBit (a + m) with
      | false => rfl
      | true => have := bit_lt h e; omega
    rw [prTo, e]
    exact prTo_hi h m
theorem prA_ne {s l : VD} (hs : WFV s) {T set : Nat} (h : ¬ prA s l T set = 1000000000) {k : Nat} (hk : k < s 0 0) (hb : set.testBit k = true) : ∃ a, EB s l a k = true := by
  refine Classical.byContradiction (fun q => h ?_)
  have f : lbN s l (T ||| set) k (s 0 0) = 1000000000 := (lbN_far hs _).mpr (fun a _ _ => by
    cases e : EB s l a k with
    | false => rfl
    | true => exact absurd ⟨a, e⟩ q)
  have : prTo s l T set (k + 1) = 1000000000 := by rw [prTo, if_pos hb, if_pos (Or.inr f)]
  have := prTo_far this (s 0 0 - (k + 1))
  rw [Nat.add_sub_cancel' (by omega)] at this
  exact this
def sfF (K : Nat → Bool) (pr : Nat → Nat) (B : Nat → Bool) : Nat → Nat × Nat × Nat
  | 0 => (0, 0, 0)
  | k + 1 => if K k = true ∧ ¬ pr k = 1000000000 ∧ ((sfF K pr B k).1 = 0 ∨ pr k < (sfF K pr B k).2.1 ∨ (pr k = (sfF K pr B k).2.1 ∧ cnt k < cnt (sfF K pr B k).2.2)) ∧ B k = true then (1, pr k, k) else sfF K pr B k
theorem sfF_gap {K : Nat → Bool} {pr : Nat → Nat} {B : Nat → Bool} {a : Nat} : ∀ m, (∀ c, a ≤ c → c < a + m → ¬ (K c = true ∧ ¬ pr c = 1000000000)) → sfF K pr B (a + m) = sfF K pr B a
  | 0, _ => rfl
  | m + 1, h => by
    show sfF K pr B ((a + m) + 1) = _
    rw [sfF, if_neg (fun q => h (a + m) (by omega) (by omega) ⟨q.1, q.2.1⟩)]
    exact sfF_gap m (fun c q1 q2 => h c q1 (by omega))
/-- what the fold keeps -/
theorem sfF_wf {K : Nat → Bool} {pr : Nat → Nat} {B : Nat → Bool} (hp : ∀ k, pr k ≤ 31968 ∨ pr k = 1000000000) : ∀ k, (sfF K pr B k).1 ≤ 1 ∧ (sfF K pr B k).2.1 ≤ 31968 ∧ (sfF K pr B k).2.2 ≤ k ∧ ((sfF K pr B k).1 = 1 → B (sfF K pr B k).2.2 = true ∧ (sfF K pr B k).2.2 < k)
  | 0 => ⟨Nat.zero_le _, Nat.zero_le _, Nat.zero_le _, fun h => absurd (show (0 : Nat) = 1 from h) (by decide)⟩
  | k + 1 => by
    obtain ⟨h1, h2, h3, h4⟩ := sfF_wf (K := K) (B := B) hp k
    rw [sfF]
    split
    · rename_i q
      refine ⟨Nat.le_refl _, ?_, ?_, fun _ => ⟨q.2.2.2, ?_⟩⟩
      · have := hp k; have := q.2.1; show pr k ≤ 31968; omega
      · show k ≤ k + 1; omega
      · show k < k + 1; omega
    · exact ⟨h1, h2, by omega, fun w => ⟨(h4 w).1, by have := (h4 w).2; omega⟩⟩
section SFM
variable {d p : Nat} {s l : VD} {M : Mem}
theorem c_pricesOf (hs : WFV s) (h : VM M s) (hA : ASK M s l) {T set : Nat} (hT : T < 65536) (hset : set < 65536) : AMp (d + 2) iX10_pricesOf [.ref 77, .int (nI T), .int (nI set)] M (nI (prA s l T set)) := by
  have hn := hs.1
  have kn : M 77 0 = nI (s 0 0) := h.1 0 (by decide)
  have hor : T ||| set < 65536 := or_lt (k := 16) hT hset
  refine eX10_pricesOf M _ _ (bX10_pricesOf_0 M _ _ ?_)
  refine up_loop (P := fun k => ¬ prTo s l T set k = 1000000000 → AX10_pricesOf (d + 2) (fun r M' => some (nI (prA s l T set)) = r ∧ M = M') 5 [lR 77, lI (nI T), lI (nI set), lI (nI (prTo s l T set k)), lI (nI k), none] [] M) (s 0 0) 0 (by omega) ?_ ?_ (by show ¬ (0 : Nat) = 1000000000; omega)
  · intro _
    refine bX10_pricesOf_5 M _ _ _ _ ?_
    rw [kn]
    exact bq_le _ _ rfl rfl (by omega) (by omega) (fun _ => ⟨rfl, rfl⟩) (fun z => by omega)
  · intro k _ hk ih nf
    have h1 := prTo_le hs (l := l) (T := T) (set := set) k
    have h2 := lbN_le hs (l := l) (set := T ||| set) (p := k) (s 0 0)
    have e : prTo s l T set (k + 1) = if set.testBit k then (if prTo s l T set k = 1000000000 ∨ lbN s l (T ||| set) k (s 0 0) = 1000000000 then 1000000000 else prTo s l T set k + lbN s l (T ||| set) k (s 0 0)) else prTo s l T set k := rfl
    refine bX10_pricesOf_5 M _ _ _ _ ?_
    rw [kn, nI_1 k, fa_or]
    refine bq_le _ _ rfl rfl (by omega) (by omega) (fun z => by omega) (fun _ => bq_hasn _ k rfl rfl (by omega) (by omega) (fun q => (c_leastBy hs h hA (by omega) hk).i ?_) (fun q => ?_))
    · rw [if_pos q] at e
      refine bq_ne _ 1000000000 rfl rfl (by omega) (by omega) (fun w => ?_) (fun w => ⟨?_, rfl⟩)
      · rw [if_neg (by omega)] at e
        rw [e] at ih
        rw [nI_add]
        exact ih (by omega)
      · rw [if_pos (Or.inr w)] at e
        have := prTo_far e (s 0 0 - (k + 1))
        rw [Nat.add_sub_cancel' (by omega)] at this
        rw [prA, this]
        rfl
    · rw [q, if_neg (by decide)] at e
      rw [e] at ih
      exact ih nf
end SFM
def prI (n : Nat) : Int32 := if n = 1000000000 then -1 else nI n
section SFC
variable {d v la p : Nat} {s l : VD} {M : Mem}
theorem c_priceOfAll (hv : vS v) (ha : aS la) (hs : WFV s) (h : STP M v la s l) (hP : PRC M s l) {T set : Nat} (hT : T < 65536) (hset : set < 2 ^ s 0 0) : AMp (d + 3) iX5_priceOfAll [.ref 73, .int (nI set), .int (nI T)] M (prI (prA s l T set)) := by
  have hn := hs.1
  have hset2 : set < 65536 := Nat.lt_of_lt_of_le hset (Nat.pow_le_pow_right (by omega) hn)
  have hor : T ||| set < 65536 := or_lt (k := 16) hT hset2
  have e16 : prTo s l T set 16 = prA s l T set := by
    have := prTo_hi (s := s) (l := l) (T := T) hset (16 - s 0 0)
    rw [Nat.add_sub_cancel' hn] at this
    exact this
  refine eX5_priceOfAll M _ _ (bX5_priceOfAll_0 M _ _ ?_)
  refine up_loop (P := fun k => ¬ prTo s l T set k = 1000000000 → AX5_priceOfAll (d + 3) (fun r M' => some (prI (prA s l T set)) = r ∧ M = M') 5 [lR 73, lI (nI set), lI (nI T), lI (nI (prTo s l T set k)), lI (nI k), none] [] M) 16 0 (by omega) ?_ ?_ (by show ¬ (0 : Nat) = 1000000000; omega)
  · intro nf
    refine bX5_priceOfAll_5 M _ _ _ _ (bq_le 16 16 rfl rfl (by omega) (by omega) (fun _ => ⟨?_, rfl⟩) (fun z => by omega))
    rw [e16] at nf ⊢
    rw [prI, if_neg nf]
  · intro k _ hk ih nf
    have h1 := prTo_le hs (l := l) (T := T) (set := set) k
    have h2 := lbN_le hs (l := l) (set := T ||| set) (p := k) (s 0 0)
    have e : prTo s l T set (k + 1) = if set.testBit k then (if prTo s l T set k = 1000000000 ∨ lbN s l (T ||| set) k (s 0 0) = 1000000000 then 1000000000 else prTo s l T set k + lbN s l (T ||| set) k (s 0 0)) else prTo s l T set k := rfl
    refine bX5_priceOfAll_5 M _ _ _ _ ?_
    rw [nI_1 k, fa_or]
    refine bq_le 16 _ rfl rfl (by omega) (by omega) (fun z => by omega) (fun _ => bq_has _ k rfl rfl (by omega) (by omega) (fun q => ?_) (fun q => (c_leastAsked hv ha hs h hP (by omega) hk).i ?_))
    · rw [q, if_neg (by decide)] at e
      rw [e] at ih
      exact ih nf
    · rw [if_pos q] at e
      by_cases w : lbN s l (T ||| set) k (s 0 0) = 1000000000
      · have e0 : lbV (lbN s l (T ||| set) k (s 0 0)) = -1 := if_pos w
        rw [e0]
        refine ⟨fun z => absurd rfl z, fun _ => ⟨?_, rfl⟩⟩
        rw [if_pos (Or.inr w)] at e
        have := prTo_far e (16 - (k + 1))
        rw [Nat.add_sub_cancel' (by omega), e16] at this
        rw [prI, if_pos this]
      · have e0 : lbV (lbN s l (T ||| set) k (s 0 0)) = nI (lbN s l (T ||| set) k (s 0 0)) := if_neg w
        rw [e0]
        rw [if_neg (by omega)] at e
        rw [e] at ih
        rw [nI_add]
        refine ⟨fun _ => ih (by omega), fun z => ?_⟩
        have := congrArg Int32.toInt z
        rw [nI_toInt (by omega)] at this
        have e1 : Int32.toInt (-1) = -1 := by decide
        rw [e1] at this
        omega
def OT (s l : VD) (T q : Nat) : Prop := T.testBit q = false ∧ ∃ a, EB s l a q = true
theorem c_whoCouldSwear (hv : vS v) (ha : aS la) (hs : WFV s) (h : STP M v la s l) {T n : Nat} (hT : T < 65536) (hn : Is n (OT s l T)) : AMp (d + 1) iX5_whoCouldSwear [.ref 73, .int (nI T)] M (nI n) := by
  have hR := hs.1
  refine eX5_whoCouldSwear M _ (bX5_whoCouldSwear_0 M _ ?_)
  refine up_loop (P := fun k => ∀ r, Is r (fun q => q < k ∧ OT s l T q) → AX5_whoCouldSwear (d + 1) (fun r M' => some (nI n) = r ∧ M = M') 4 [lR 73, lI (nI T), lI (nI r), lI (nI k)] [] M) 16 0 (by omega) ?_ ?_ 0 (fun i => by simp)
  · intro r hr
    refine bX5_whoCouldSwear_4 M _ _ _ (bq_le 16 16 rfl rfl (by omega) (by omega) (fun _ => ⟨?_, rfl⟩) (fun z => by omega))
    rw [Is.un (hr.cg (fun i => ⟨fun q => q.2, fun q => ⟨by obtain ⟨_, a, e⟩ := q; have := (EB_lt hs e).2; omega, q⟩⟩)) hn]
  · intro k _ hk ih r hr
    obtain ⟨m, m1, m2, m3⟩ := h.2.2.2 k hk
    refine bX5_whoCouldSwear_4 M _ _ _ ?_
    rw [nI_1 k, or1 (by omega), ix_nI (by omega), m2]
    have skip : ¬ OT s l T k → AX5_whoCouldSwear (d + 1) (fun r M' => some (nI n) = r ∧ M = M') 4 [lR 73, lI (nI T), lI (nI r), lI (nI (k + 1))] [] M := fun q => ih r (fun i => by
      rw [hr i]
      constructor
      · rintro ⟨a, b⟩; exact ⟨by omega, b⟩
      · rintro ⟨a, b⟩
        refine ⟨?_, b⟩
        by_cases e : i = k
        · subst e; exact absurd b q
        · omega)
    refine bq_le 16 _ rfl rfl (by omega) (by omega) (fun z => by omega) (fun _ => bq_hasn _ k rfl rfl (by omega) (by omega) (fun q => skip (fun w => by rw [w.1] at q; cases q)) (fun q => ⟨vp_in_nI hk (by decide), bq_eq _ 0 rfl rfl (by omega) (by omega) (fun z => skip (fun w => ?_)) (fun z => ih _ (fun i => ?_))⟩))
    · obtain ⟨_, a, e⟩ := w
      have := (m3 a).mpr e
      rw [z] at this
      simp at this
    · obtain ⟨a, ha⟩ := Nat.exists_testBit_of_ne_zero z
      have hO : OT s l T k := ⟨q, a, (m3 a).mp ha⟩
      rw [or1_bit, Bool.or_eq_true, hr i, decide_eq_true_eq]
      constructor
      · rintro (⟨a, b⟩ | rfl)
        · exact ⟨by omega, b⟩
        · exact ⟨by omega, hO⟩
      · rintro ⟨a, b⟩
        by_cases e : k = i
        · exact Or.inr e
        · exact Or.inl ⟨by omega, b⟩
/-- what the search holds -/
def SM (M : Mem) (r : Nat × Nat × Nat) : Prop := M 73 1 = nI r.1 ∧ (r.1 = 1 → M 73 3 = nI r.2.1 ∧ M 73 4 = nI r.2.2 ∧ M 73 2 = nI (cnt r.2.2))
def kOK (s : VD) (T k : Nat) : Bool := decide (k &&& T = 0 ∧ sd k (s 0 1) = 0 ∧ cnt k ≤ 5)
theorem c_searchS (hv : vS v) (ha : aS la) (hs : WFV s) (h : STP M v la s l) (hP : PRC M s l) {T e : Nat} (hT : T < 2 ^ s 0 0) (hp : p < s 0 0) (he : e = 1 ∨ e = 2) {B : Nat → Bool} (hB : ∀ k, B k = true ↔ SFE s l p (T ||| k) e) : AMi (d + 4) iX5_search [.ref 73, .int (nI p), .int (nI T), .int (nI e)] M (fun r M' => r = nI (sfF (kOK s T) (prA s l T) B (2 ^ s 0 0)).1 ∧ SM M' (sfF (kOK s T) (prA s l T) B (2 ^ s 0 0)) ∧ ∀ k, k ≠ 73 → M' k = M k) := by
  have hR := hs.1
  have pR : 2 ^ s 0 0 ≤ 65536 := Nat.pow_le_pow_right (n := 2) (by omega) hR
  have hT2 : T < 65536 := by omega
  have pp : ∀ k, prA s l T k ≤ 31968 ∨ prA s l T k = 1000000000 := fun k => by
    have := prTo_le hs (l := l) (T := T) (set := k) (s 0 0)
    show prTo s l T k (s 0 0) ≤ 31968 ∨ prTo s l T k (s 0 0) = 1000000000
    omega
  obtain ⟨O, hO, hI⟩ : ∃ O, O < 2 ^ s 0 0 ∧ Is O (OT s l T) := by
    obtain ⟨n, h1, h2⟩ := Is_ex (OT s l T) (s 0 0)
    exact ⟨n, h1, h2.cg (fun i => ⟨fun q => q.2, fun q => ⟨by obtain ⟨_, a, e⟩ := q; exact (EB_lt hs e).2, q⟩⟩)⟩
  have hO2 : O < 65536 := by omega
  generalize hF : sfF (kOK s T) (prA s l T) B = F
  have Fs : ∀ k, F (k + 1) = if kOK s T k = true ∧ ¬ prA s l T k = 1000000000 ∧ ((F k).1 = 0 ∨ prA s l T k < (F k).2.1 ∨ (prA s l T k = (F k).2.1 ∧ cnt k < cnt (F k).2.2)) ∧ B k = true then (1, prA s l T k, k) else F k := fun k => by rw [← hF]; rfl
  have F0 : F 0 = (0, 0, 0) := by rw [← hF]; rfl
  have Fw : ∀ k, (F k).1 ≤ 1 ∧ (F k).2.1 ≤ 31968 ∧ (F k).2.2 ≤ k := fun k => by rw [← hF]; have := sfF_wf (K := kOK s T) (B := B) pp k; exact ⟨this.1, this.2.1, this.2.2.1⟩
  have Fg : ∀ a b, a ≤ b → b ≤ 2 ^ s 0 0 → (∀ c, a ≤ c → c < b → ¬ Sb c O) → F b = F a := by
    intro a b hab hb hc
    rw [← hF]
    have := sfF_gap (K := kOK s T) (pr := prA s l T) (B := B) (a := a) (b - a) (fun c q1 q2 q3 => by
      refine hc c q1 (by omega) (fun i hi => (hI i).mpr ?_)
      have k3 := of_decide_eq_true q3.1
      have i1 : i < s 0 0 := bit_lt (s := c) (by omega) hi
      refine ⟨?_, prA_ne hs q3.2 i1 hi⟩
      cases et : T.testBit i with
      | false => rfl
      | true => exact absurd k3.1 (and_ne.mpr ⟨i, hi, et⟩))
    rw [Nat.add_sub_cancel' hab] at this
    exact this
  have Kb : ∀ c, Sb c O → (kOK s T c = true ↔ cnt c ≤ 5) := by
    intro c hc
    rw [kOK, decide_eq_true_eq]
    refine ⟨fun q => q.2.2, fun q => ⟨?_, ?_, q⟩⟩
    · refine Classical.byContradiction (fun w => ?_)
      obtain ⟨a, a1, a2⟩ := and_ne.mp w
      have := ((hI a).mp (hc a a1)).1
      rw [a2] at this
      cases this
    · refine sd_z.mpr (fun i hi => ?_)
      obtain ⟨_, a, e⟩ := (hI i).mp (hc i hi)
      exact (EB_t.mp e).2.1
  have st : ∀ M' : Mem, (∀ k, k ≠ 73 → M' k = M k) → STP M' v la s l ∧ PRC M' s l := fun M' g => ⟨h.cg hv ha (g 62 (by omega)) (g 64 (by omega)) (g 65 (by omega)) (by rw [g 68 (by omega)]) (by rw [g 68 (by omega)]) (fun k hk _ => g k (by omega)), fun a b q => by rw [g 66 (by omega)]; exact hP a b q⟩
  have c16 := cnt_le O
  have p2 : 2 ^ cnt O ≤ 2 ^ 16 := Nat.pow_le_pow_right (by omega) c16
  have p1 : 1 ≤ 2 ^ cnt O := Nat.one_le_two_pow
  have plt : ∀ i, pd 16 O i < 2 ^ s 0 0 := fun i => by
    have := Sb_le 16 O _ hO2 (pd_sub 16 O i)
    omega
  have eL : pd 16 O (2 ^ cnt O - 1) = O := by have := pd_last 16 O hO2; rw [pc_cnt] at this; exact this
  refine eX5_search M _ _ _ (bX5_search_0 M _ _ _ ?_)
  have g0 : ∀ k, k ≠ 73 → wr M 73 1 0 k = M k := fun k hk => wr_row hk
  refine (c_whoCouldSwear hv ha hs (st _ g0).1 hT2 hI).i ?_
  refine up_loop (P := fun i => ∀ (M' : Mem) (x : Int32), (∀ k, k ≠ 73 → M' k = M k) → (i < 2 ^ cnt O → x = nI (pd 16 O i) ∧ SM M' (F (pd 16 O i))) → (i = 2 ^ cnt O → SM M' (F (O + 1))) → AX5_search (d + 4) (fun r M' => ∃ y, r = some y ∧ y = nI (F (2 ^ s 0 0)).1 ∧ SM M' (F (2 ^ s 0 0)) ∧ ∀ k, k ≠ 73 → M' k = M k) 18 [lR 73, lI (nI p), lI (nI T), lI (nI e), lI (nI O), lI x, lI (nI i), none] [] M') (2 ^ cnt O) 0 (by omega) ?_ ?_ _ _ g0 (fun _ => ⟨by rw [pd_0]; rfl, by rw [pd_0, F0]; exact ⟨wr_same _ _ _ _, fun q => absurd q (by decide)⟩⟩) (fun q => by omega)
  · intro M' x g _ hS
    have hS := hS rfl
    have eF : F (2 ^ s 0 0) = F (O + 1) := Fg _ _ (by omega) (Nat.le_refl _) (fun c q1 q2 q3 => by have := Sb_le 16 O c hO2 q3; omega)
    refine bX5_search_18 M' _ _ _ _ _ _ ?_
    rw [bc_nI hO2, shl1 _ (by omega), hS.1]
    have := (Fw (O + 1)).1
    refine bq_le _ _ rfl rfl (by omega) (by omega) (fun _ => ⟨?_, _, rfl, by rw [eF], by rw [eF]; exact hS, g⟩) (fun z => by omega)
    by_cases z : (F (O + 1)).1 = 0
    · rw [z]; exact Or.inl rfl
    · rw [show (F (O + 1)).1 = 1 by omega]; exact Or.inr rfl
  · intro i _ hi ih M' x g hx _
    obtain ⟨rfl, hS⟩ := hx hi
    have sb := pd_sub 16 O i
    have pl := plt i
    have cp := cnt_le (pd 16 O i)
    obtain ⟨hST, hPR⟩ := st M' g
    have nxt : ∀ M2 : Mem, (∀ k, k ≠ 73 → M2 k = M k) → SM M2 (F (pd 16 O i + 1)) → AX5_search (d + 4) (fun r M' => ∃ y, r = some y ∧ y = nI (F (2 ^ s 0 0)).1 ∧ SM M' (F (2 ^ s 0 0)) ∧ ∀ k, k ≠ 73 → M' k = M k) 107 [lR 73, lI (nI p), lI (nI T), lI (nI e), lI (nI O), lI (nI (pd 16 O i)), lI (nI i), none] [] M2 := by
      intro M2 g2 s2
      refine bX5_search_107 M2 _ _ _ _ _ _ ?_
      rw [nI_1 i]
      refine ih M2 _ g2 (fun w => ⟨nx_pd hO2 w, ?_⟩) (fun w => ?_)
      · have mono := pd_mono 16 O i (i + 1) (by omega) (by rw [pc_cnt]; exact w)
        rw [Fg (pd 16 O i + 1) (pd 16 O (i + 1)) (by omega) (by have := plt (i + 1); omega) (fun c q1 q2 q3 => pd_gap 16 O i c hO2 (by rw [pc_cnt]; exact w) q3 (by omega) q2)]
        exact s2
      · have : pd 16 O i = O := by
          rw [← w, Nat.add_sub_cancel] at eL
          exact eL
        rw [this] at s2
        exact s2
    have Fi := Fs (pd 16 O i)
    have w1 := Fw (pd 16 O i)
    refine bX5_search_18 M' _ _ _ _ _ _ ?_
    rw [bc_nI hO2, shl1 _ (by omega), bc_nI (by omega), fa_or]
    refine bq_le _ _ rfl rfl (by omega) (by omega) (fun z => by omega) (fun _ => bq_lt 5 _ rfl rfl (by omega) (by omega) (fun q => nxt M' g ?_) (fun q5 => ?_))
    · rw [if_neg (fun w => by have := (Kb _ sb).mp w.1; omega)] at Fi
      rw [Fi]; exact hS
    · refine (c_priceOfAll hv ha hs hST hPR hT2 pl).i ?_
      have hp31 := pp (pd 16 O i)
      by_cases wf : prA s l T (pd 16 O i) = 1000000000
      · have e0 : prI (prA s l T (pd 16 O i)) = -1 := if_pos wf
        rw [e0]
        refine ⟨fun _ => nxt M' g ?_, fun z => absurd rfl z⟩
        rw [if_neg (fun w => w.2.1 wf)] at Fi
        rw [Fi]; exact hS
      · have e0 : prI (prA s l T (pd 16 O i)) = nI (prA s l T (pd 16 O i)) := if_neg wf
        rw [e0]
        refine ⟨fun z => ?_, fun _ => ?_⟩
        · have := congrArg Int32.toInt z
          rw [nI_toInt (by omega)] at this
          have e1 : Int32.toInt (-1) = -1 := by decide
          rw [e1] at this
          omega
        · -- better?
          have better : ∀ Q : Int32 → Mem → Prop, (((F (pd 16 O i)).1 = 0 ∨ prA s l T (pd 16 O i) < (F (pd 16 O i)).2.1 ∨ (prA s l T (pd 16 O i) = (F (pd 16 O i)).2.1 ∧ cnt (pd 16 O i) < cnt (F (pd 16 O i)).2.2)) → Q 1 M') → (¬ ((F (pd 16 O i)).1 = 0 ∨ prA s l T (pd 16 O i) < (F (pd 16 O i)).2.1 ∨ (prA s l T (pd 16 O i) = (F (pd 16 O i)).2.1 ∧ cnt (pd 16 O i) < cnt (F (pd 16 O i)).2.2)) → Q 0 M') → AMi (d + 3) iX5_isBetter [.ref 73, .int (nI (prA s l T (pd 16 O i))), .int (nI (pd 16 O i))] M' Q := by
            intro Q q1 q0
            refine eX5_isBetter M' _ _ (bX5_isBetter_0 M' _ _ ?_)
            rw [hS.1, bc_nI (by omega)]
            refine bq_eq _ 0 rfl rfl (by omega) (by omega) (fun z => ⟨_, rfl, q1 (Or.inl z)⟩) (fun z => ?_)
            obtain ⟨m3, m4, m2⟩ := hS.2 (by omega)
            have cb := cnt_le (F (pd 16 O i)).2.2
            rw [m3, m2]
            exact bq_le _ _ rfl rfl (by omega) (by omega) (fun z2 => bq_ne _ _ rfl rfl (by omega) (by omega) (fun z3 => ⟨_, rfl, q0 (by omega)⟩) (fun z3 => bq_le _ _ rfl rfl (by omega) (by omega) (fun z4 => ⟨_, rfl, q0 (by omega)⟩) (fun z4 => ⟨_, rfl, q1 (by omega)⟩))) (fun z2 => ⟨_, rfl, q1 (by omega)⟩)
          refine better _ (fun qb => ?_) (fun qb => ?_)
          · refine ⟨fun z => absurd z (by decide), fun _ => ?_⟩
            obtain ⟨y, hy⟩ := SFE_x s l p (T ||| pd 16 O i) e
            refine (c_outlasts hv ha hs hST (or_lt (k := 16) hT2 (by omega)) hp he hy).i ?_
            rcases hy with ⟨rfl, w⟩ | ⟨rfl, w⟩
            · refine ⟨fun z => absurd z (by decide), fun _ => nxt _ (fun k hk => by rw [wr_row hk, wr_row hk, wr_row hk, wr_row hk]; exact g k hk) ?_⟩
              rw [if_pos ⟨(Kb _ sb).mpr (by omega), wf, qb, (hB _).mpr w⟩] at Fi
              rw [Fi]
              refine ⟨?_, fun _ => ⟨?_, ?_, ?_⟩⟩
              · rw [wr_el (by omega), wr_el (by omega), wr_el (by omega)]; exact wr_same _ _ _ _
              · rw [wr_el (by omega), wr_el (by omega)]; exact wr_same _ _ _ _
              · exact wr_same _ _ _ _
              · rw [wr_el (by omega)]; exact wr_same _ _ _ _
            · refine ⟨fun _ => nxt M' g ?_, fun z => absurd rfl z⟩
              rw [if_neg (fun q => w ((hB _).mp q.2.2.2))] at Fi
              rw [Fi]; exact hS
          · refine ⟨fun _ => nxt M' g ?_, fun z => absurd rfl z⟩
            rw [if_neg (fun q => qb q.2.2.1)] at Fi
            rw [Fi]; exact hS
end SFC
