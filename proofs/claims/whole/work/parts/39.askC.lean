/-! WHAT THE CLASS ASKS OF ITS STEPS -/
def PRC (M : Mem) (s l : VD) : Prop := ∀ a b, EB s l a b = true → M 66 (16 * a + b) = nI (prN s l a b)
theorem lbN_up {s l : VD} (hs : WFV s) {set p : Nat} : ∀ k, s 0 0 ≤ k → lbN s l set p k = lbN s l set p (s 0 0) := by
  intro k hk
  obtain ⟨m, rfl⟩ := Nat.exists_eq_add_of_le hk
  induction m with
  | zero => rfl
  | succ m ih =>
    have e : EB s l (s 0 0 + m) p = false := by
      cases e : EB s l (s 0 0 + m) p with
      | false => rfl
      | true => have := (EB_lt hs e).1; omega
    have h1 := lbN_le hs (l := l) (set := set) (p := p) (s 0 0 + m)
    show lbN s l set p ((s 0 0 + m) + 1) = _
    rw [lbN, (stN_far hs).mpr e]
    have := ih (by omega)
    split <;> omega
def lbV (n : Nat) : Int32 := if n = 1000000000 then -1 else nI n
/-- one walk -/
def PI (E : Nat → Nat → Bool) (A T : Nat) (u : Nat → Nat) (i r : Nat) : Prop := RIn E A T r ∧ ∀ x, RS E A T x → (A.testBit x = true ∨ ∃ j, j < i ∧ u j = x) → r.testBit x = true
theorem PI.skip {E : Nat → Nat → Bool} {A T : Nat} {u : Nat → Nat} {i r : Nat} (h : PI E A T u i r) (hno : RS E A T (u i) → r.testBit (u i) = true) : PI E A T u (i + 1) r := by
  refine ⟨h.1, fun x hx q => ?_⟩
  rcases q with q | ⟨j, hj, e⟩
  · exact h.2 x hx (Or.inl q)
  · by_cases z : j = i
    · rw [z] at e; rw [← e] at hx ⊢; exact hno hx
    · exact h.2 x hx (Or.inr ⟨j, by omega, e⟩)
theorem PI.add {E : Nat → Nat → Bool} {A T a : Nat} {u : Nat → Nat} {i r : Nat} (h : PI E A T u i r) (hb : u i < 16) (ha : r.testBit a = true) (ht : T.testBit (u i) = true) (he : E a (u i) = true) : PI E A T u (i + 1) (r ||| 2 ^ u i) := by
  refine ⟨h.1.add hb ha ht he, fun x hx q => ?_⟩
  rw [or1_bit, Bool.or_eq_true, decide_eq_true_eq]
  rcases q with q | ⟨j, hj, e⟩
  · exact Or.inl (h.2 x hx (Or.inl q))
  · by_cases z : j = i
    · rw [z] at e; exact Or.inr e
    · exact Or.inl (h.2 x hx (Or.inr ⟨j, by omega, e⟩))
theorem and_ne {n r : Nat} : ¬ n &&& r = 0 ↔ ∃ a, n.testBit a = true ∧ r.testBit a = true := by
  constructor
  · intro h
    obtain ⟨a, ha⟩ := Nat.exists_testBit_of_ne_zero h
    rw [Nat.testBit_and, Bool.and_eq_true] at ha
    exact ⟨a, ha⟩
  · rintro ⟨a, h1, h2⟩ h
    have : (n &&& r).testBit a = true := by rw [Nat.testBit_and, h1, h2]; rfl
    rw [h] at this
    simp at this
section CQ
variable {d v la p a b : Nat} {s l : VD} {M : Mem}
theorem c_leads (hv : vS v) (ha : aS la) (h : STP M v la s l) (hA : a < 16) (hB : b < 16) : AMp (d + 1) iX6_leads [.ref 62, .int (nI a), .int (nI b)] M (if EB s l a b then 1 else 0) := by
  obtain ⟨n, n1, n2, n3⟩ := h.2.2.2 b hB
  refine eX6_leads M _ _ (bX6_leads_0 hv.iv ha.ia M _ _ ⟨vp_in_nI hB (by decide), ?_⟩)
  rw [ix_nI (by omega), n2, has_nI (by omega) (by omega)]
  have e : n.testBit a = EB s l a b := by
    have := n3 a
    cases e1 : n.testBit a <;> cases e2 : EB s l a b <;> simp [e1, e2] at this ⊢
  rw [e]
  cases EB s l a b with
  | false => exact ⟨Or.inl rfl, rfl, rfl⟩
  | true => exact ⟨Or.inr rfl, rfl, rfl⟩
theorem c_reckonPrices (hv : vS v) (ha : aS la) (hs : WFV s) (hl : WFL l) (h : STP M v la s l) : AMv (d + 4) iX6_reckonPrices [.ref 62] M (fun M' => STP M' v la s l ∧ PRC M' s l ∧ SF la M M') := by
  have hn := hs.1
  have n1 := hv.n
  have n2 := ha.n
  have st : ∀ M' : Mem, (∀ k, k ≠ 66 → k ≠ 68 → k ≠ la + 7 → M' k = M k) → M' 68 10 = M 68 10 → M' 68 11 = M 68 11 → STP M' v la s l := fun M' g g1 g2 => h.cg hv ha (g 62 (by omega) (by omega) (by omega)) (g 64 (by omega) (by omega) (by omega)) (g 65 (by omega) (by omega) (by omega)) g1 g2 (fun k hk q => g k (by omega) (by omega) q)
  refine eX6_reckonPrices M (bX6_reckonPrices_0 hv.iv ha.ia M ?_)
  refine up_loop (P := fun b => ∀ M', (∀ x y, y < b → EB s l x y = true → M' 66 (16 * x + y) = nI (prN s l x y)) → (∀ k, k ≠ 66 → k ≠ 68 → k ≠ la + 7 → M' k = M k) → M' 68 10 = M 68 10 → M' 68 11 = M 68 11 → AX6_reckonPrices (d + 4) (fun r M' => r = none ∧ STP M' v la s l ∧ PRC M' s l ∧ SF la M M') 2 [lR 62, lI (nI b), none] [] M') (s 0 0) 0 (by omega) ?_ ?_ M (fun x y hy => by omega) (fun _ _ _ _ => rfl) rfl rfl
  · intro M' p1 g g10 g11
    have hS := st M' g g10 g11
    have kn : M' v 7 = nI (s 0 0) := hS.1.2.2.1.1 0 (by decide)
    refine bX6_reckonPrices_2 hv.iv ha.ia M' _ ⟨by rw [hS.1.1, ix_nI (by omega)], ?_⟩
    rw [kn]
    exact bq_le _ _ rfl rfl (by omega) (by omega) (fun _ => ⟨rfl, hS, fun x y q => p1 x y (EB_lt hs q).2 q, fun k q1 q2 => g k (by omega) (by omega) q2⟩) (fun z => by omega)
  · intro b _ hb ih M' p1 g g10 g11
    have hS := st M' g g10 g11
    have kn : M' v 7 = nI (s 0 0) := hS.1.2.2.1.1 0 (by decide)
    refine bX6_reckonPrices_2 hv.iv ha.ia M' _ ⟨by rw [hS.1.1, ix_nI (by omega)], ?_⟩
    rw [kn]
    refine bq_le _ _ rfl rfl (by omega) (by omega) (fun z => by omega) (fun _ => ?_)
    refine up_loop (P := fun a => ∀ M', (∀ x y, y < b ∨ (y = b ∧ x < a) → EB s l x y = true → M' 66 (16 * x + y) = nI (prN s l x y)) → (∀ k, k ≠ 66 → k ≠ 68 → k ≠ la + 7 → M' k = M k) → M' 68 10 = M 68 10 → M' 68 11 = M 68 11 → AX6_reckonPrices (d + 4) (fun r M' => r = none ∧ STP M' v la s l ∧ PRC M' s l ∧ SF la M M') 15 [lR 62, lI (nI b), lI (nI a)] [] M') (s 0 0) 0 (by omega) ?_ ?_ M' (fun x y hy => p1 x y (by omega)) g g10 g11
    · intro M' p1 g g10 g11
      have hS := st M' g g10 g11
      have kn : M' v 7 = nI (s 0 0) := hS.1.2.2.1.1 0 (by decide)
      refine bX6_reckonPrices_15 hv.iv ha.ia M' _ _ ⟨by rw [hS.1.1, ix_nI (by omega)], ?_⟩
      rw [kn, nI_1 b]
      exact bq_le _ _ rfl rfl (by omega) (by omega) (fun _ => ih M' (fun x y hy q => p1 x y (by have := (EB_lt hs q).1; omega) q) g g10 g11) (fun z => by omega)
    · intro a _ hA ih2 M' p1 g g10 g11
      have hS := st M' g g10 g11
      have kn : M' v 7 = nI (s 0 0) := hS.1.2.2.1.1 0 (by decide)
      refine bX6_reckonPrices_15 hv.iv ha.ia M' _ _ ⟨by rw [hS.1.1, ix_nI (by omega)], ?_⟩
      rw [kn, nI_1 a]
      refine bq_le _ _ rfl rfl (by omega) (by omega) (fun z => by omega) (fun _ => (c_leads hv ha hS (by omega) (by omega)).i ?_)
      cases hE : EB s l a b with
      | false =>
        refine ⟨fun _ => ih2 M' (fun x y hy q => ?_) g g10 g11, fun z => absurd rfl z⟩
        by_cases z : y = b ∧ x = a
        · rw [z.1, z.2, hE] at q; cases q
        · exact p1 x y (by omega) q
      | true =>
        refine ⟨fun z => absurd z (by decide), fun _ => (c_priceByLaw hv ha hs hl hS.1 hA hb).mono (fun r M2 hr => ?_)⟩
        obtain ⟨rfl, w10, w11, w⟩ := hr
        have e16 : nI a * 16 + nI b = nI (16 * a + b) := by rw [show (16 : Int32) = nI 16 from rfl, pk_mul, nI_add, Nat.mul_comm]
        rw [e16, ix_nI (by omega)]
        refine ⟨vp_in_nI (by omega) (by decide), ih2 _ (fun x y hy q => ?_) (fun k q1 q2 q3 => by rw [wr_row q1, w k q2 q3, g k q1 q2 q3]) (by rw [wr_row (by omega), w10, g10]) (by rw [wr_row (by omega), w11, g11])⟩
        by_cases z : y = b ∧ x = a
        · rw [z.1, z.2]; exact wr_same _ _ _ _
        · have := (EB_lt hs q)
          rw [wr_el (by omega), w 66 (by omega) (by omega)]
          exact p1 x y (by omega) q
theorem c_priceOf (hv : vS v) (ha : aS la) (hs : WFV s) (hP : PRC M s l) (hE : EB s l a b = true) : AMp d iX6_priceOf [.ref 62, .int (nI a), .int (nI b)] M (nI (prN s l a b)) := by
  have := (EB_lt hs hE)
  have hn := hs.1
  have e16 : nI a * 16 + nI b = nI (16 * a + b) := by rw [show (16 : Int32) = nI 16 from rfl, pk_mul, nI_add, Nat.mul_comm]
  refine eX6_priceOf M _ _ (bX6_priceOf_0 hv.iv ha.ia M _ _ ?_)
  rw [e16, ix_nI (by omega), hP a b hE]
  exact ⟨vp_in_nI (by omega) (by decide), rfl, rfl⟩
theorem c_leastAsked (hv : vS v) (ha : aS la) (hs : WFV s) (h : STP M v la s l) (hP : PRC M s l) {set : Nat} (hset : set < 2 ^ 31) (hp : p < 16) : AMp (d + 2) iX6_leastAsked [.ref 62, .int (nI set), .int (nI p)] M (lbV (lbN s l set p (s 0 0))) := by
  have hn := hs.1
  rw [← lbN_up hs 16 hn]
  refine eX6_leastAsked M _ _ (bX6_leastAsked_0 hv.iv ha.ia M _ _ ?_)
  refine up_loop (P := fun a => AX6_leastAsked (d + 2) (fun r M' => some (lbV (lbN s l set p 16)) = r ∧ M = M') 5 [lR 62, lI (nI set), lI (nI p), lI (lbV (lbN s l set p a)), lI (nI a), none] [] M) 16 0 (by omega) ?_ ?_
  · exact bX6_leastAsked_5 hv.iv ha.ia M _ _ _ _ (bq_le 16 16 rfl rfl (by omega) (by omega) (fun _ => ⟨rfl, rfl⟩) (fun z => by omega))
  · intro a _ hA ih
    have h1 := lbN_le hs (l := l) (set := set) (p := p) a
    have h2 := stN_le hs (l := l) (a := a) (b := p)
    have h3 := stN_far hs (l := l) (a := a) (b := p)
    refine bX6_leastAsked_5 hv.iv ha.ia M _ _ _ _ ?_
    rw [nI_1 a]
    have el : lbN s l set p (a + 1) = if set.testBit a then min (lbN s l set p a) (stN s l a p) else lbN s l set p a := rfl
    rw [el] at ih
    refine bq_le 16 a rfl rfl (by omega) (by omega) (fun z => by omega) (fun _ => bq_has _ a rfl rfl hset (by omega) (fun q => ?_) (fun q => (c_leads hv ha h hA hp).i ?_))
    · rw [q] at ih; exact ih
    · rw [if_pos q] at ih
      cases hE : EB s l a p with
      | false =>
        refine ⟨fun _ => ?_, fun z => absurd rfl z⟩
        rw [h3.mpr hE, Nat.min_eq_left (by omega)] at ih
        exact ih
      | true =>
        have hst : stN s l a p = prN s l a p := by rw [stN, if_pos hE]
        have hpr : prN s l a p ≤ 1998 := pr_le hs hp
        refine ⟨fun z => absurd z (by decide), fun _ => (c_priceOf hv ha hs hP hE).i ?_⟩
        rw [hst] at ih
        by_cases zf : lbN s l set p a = 1000000000
        · have e0 : lbV (lbN s l set p a) = -1 := if_pos zf
          rw [e0]
          refine ⟨fun z => absurd rfl z, fun _ => ?_⟩
          have e1 : lbV (prN s l a p) = nI (prN s l a p) := if_neg (by omega)
          rw [zf, Nat.min_eq_right (by omega), e1] at ih
          exact ih
        · have e0 : lbV (lbN s l set p a) = nI (lbN s l set p a) := if_neg zf
          rw [e0]
          refine ⟨fun _ => ?_, fun z => ?_⟩
          · have e : (if nI (prN s l a p) < nI (lbN s l set p a) then nI (prN s l a p) else nI (lbN s l set p a)) = lbV (min (lbN s l set p a) (prN s l a p)) := by
              have e0 : lbV (min (lbN s l set p a) (prN s l a p)) = nI (min (lbN s l set p a) (prN s l a p)) := if_neg (by omega)
              rw [e0]
              by_cases c : prN s l a p < lbN s l set p a
              · rw [if_pos (nI_lt c (by omega)), Nat.min_eq_right (by omega)]
              · rw [if_neg (fun q => c ((nI_ltI (by omega) (by omega)).mp q)), Nat.min_eq_left (by omega)]
            rw [e]
            exact ih
          · have := congrArg Int32.toInt z
            rw [nI_toInt (by omega)] at this
            have e1 : Int32.toInt (-1) = -1 := by decide
            rw [e1] at this
            omega
/-- one walk is enough -/
theorem walk_no (hs : WFV s) {A T r i c : Nat} {u : Nat → Nat} (e3 : ORD s (s 0 0) c u) (hi : i < c) (h : PI (EB s l) A T u i r) {n : Nat} (hn : Is n (fun a => EB s l a (u i) = true)) (q : n &&& r = 0) (hR : RS (EB s l) A T (u i)) : r.testBit (u i) = true := by
  rcases hR.inv with q1 | ⟨_, a, q2, q3⟩
  · exact h.2 _ hR (Or.inl q1)
  · have t := EB_t.mp q3
    obtain ⟨j, hj, e⟩ := e3.2.2.1 a (EB_lt hs q3).1 t.1
    have tt := t.2.2.1
    have : j < i := by
      by_cases z : j < i
      · exact z
      · by_cases z2 : j = i
        · rw [← e, z2] at tt; omega
        · have := e3.2.2.2 i j (by omega) hj
          rw [e] at this
          omega
    have ra := h.2 a q2 (Or.inr ⟨j, this, e⟩)
    exact absurd q (and_ne.mpr ⟨a, (hn a).mpr q3, ra⟩)
theorem walk_end (hs : WFV s) {A T r c n : Nat} {u : Nat → Nat} (e3 : ORD s (s 0 0) c u) (h : PI (EB s l) A T u c r) (hn : Is n (RS (EB s l) A T)) : r = n := by
  refine Is.un (P := RS (EB s l) A T) (fun i => ⟨h.1.2.2 i, fun hi => h.2 i hi ?_⟩) hn
  rcases hi.inv with q1 | ⟨_, a, _, q3⟩
  · exact Or.inl q1
  · exact Or.inr (e3.2.2.1 i (EB_lt hs q3).2 (EB_t.mp q3).2.1)
theorem c_reachFrom (hv : vS v) (ha : aS la) (hs : WFV s) (h : STP M v la s l) {T n : Nat} (hT : T < 2 ^ 31) (hp : p < 16) (hn : Is n (RS (EB s l) (2 ^ p) T)) : AMp (d + 1) iX6_reachFrom [.ref 62, .int (nI p), .int (nI T)] M (nI n) := by
  have hR := hs.1
  obtain ⟨c, u, e1, e2, e3⟩ := h.2.2.1
  have hc := e3.1
  have i0 : PI (EB s l) (2 ^ p) T u 0 (2 ^ p) := ⟨⟨p2_lt (k := 16) (by omega), fun _ hi => hi, fun i hi => RS.base hi⟩, fun x _ q => q.elim id (fun ⟨j, hj, _⟩ => by omega)⟩
  refine eX6_reachFrom M _ _ (bX6_reachFrom_0 hv.iv ha.ia M _ _ ?_)
  rw [shl1 p (by omega)]
  refine up_loop (P := fun i => ∀ r, PI (EB s l) (2 ^ p) T u i r → AX6_reachFrom (d + 1) (fun r M' => some (nI n) = r ∧ M = M') 7 [lR 62, none, lI (nI T), lI (nI r), lI (nI i), none] [] M) c 0 (by omega) ?_ ?_ _ i0
  · intro r hr
    refine bX6_reachFrom_7 hv.iv ha.ia M _ _ _ ?_
    rw [e1]
    refine bq_le _ _ rfl rfl (by omega) (by omega) (fun _ => ⟨?_, rfl⟩) (fun z => by omega)
    rw [walk_end hs e3 hr hn]
  · intro i _ hi ih r hr
    have ui := e3.2.1 i hi
    obtain ⟨m, m1, m2, m3⟩ := h.2.2.2 (u i) (by omega)
    have r1 := hr.1.1
    have l3 : m &&& r < 2 ^ 16 := Nat.and_lt_two_pow m r1
    refine bX6_reachFrom_7 hv.iv ha.ia M _ _ _ ?_
    rw [e1, nI_1 i, ix_nI (n := i) (by omega), e2 i hi, ix_nI (n := u i) (by omega), m2, fa_and, or1 (by omega)]
    refine bq_le _ _ rfl rfl (by omega) (by omega) (fun z => by omega) (fun _ => ⟨vp_in_nI (by omega) (by decide), bq_has _ (u i) rfl rfl hT (by omega) (fun q => ih r (hr.skip (fun hR => ?_))) (fun qt => ⟨vp_in_nI (by omega) (by decide), bq_eq _ 0 rfl rfl (by omega) (by omega) (fun q => ih r (hr.skip (walk_no hs e3 hi hr m3 q))) (fun q => ?_)⟩)⟩)
    · rcases hR.inv with q1 | ⟨q1, _⟩
      · exact hr.2 _ hR (Or.inl q1)
      · rw [q] at q1; cases q1
    · obtain ⟨a, a1, a2⟩ := and_ne.mp q
      exact ih _ (hr.add (by omega) a2 qt ((m3 a).mp a1))
theorem RS_dead {T x : Nat} (hd : (s 0 1).testBit p = false) (h : RS (EB s l) (2 ^ p) T x) : x = p := by
  refine h (fun x => x = p) (fun y hy => ?_) (fun a y e _ q => ?_)
  · rw [p2_bit, decide_eq_true_eq] at hy; exact hy.symm
  · rw [e] at q; have := (EB_t.mp q).1; rw [hd] at this; cases this
theorem HS_iff {T : Nat} (hp : p < s 0 0) : HS s l p T ↔ ¬ topS s = 31 ∧ RS (EB s l) (2 ^ p) T (topS s) := by
  refine ⟨fun h => h.2, fun h => ⟨?_, h⟩⟩
  cases e : (s 0 1).testBit p with
  | true => rfl
  | false =>
    have := RS_dead e h.2
    rcases topS_or s with q | ⟨_, q⟩
    · exact absurd q h.1
    · rw [this, e] at q; cases q
theorem c_comesToTop (hv : vS v) (ha : aS la) (hs : WFV s) (h : STP M v la s l) {T : Nat} (hT : T < 2 ^ 31) (hp : p < s 0 0) {x : Int32} (hx : (x = 1 ∧ HS s l p T) ∨ (x = 0 ∧ ¬ HS s l p T)) : AMp (d + 2) iX6_comesToTop [.ref 62, .int (nI p), .int (nI T)] M x := by
  have hR := hs.1
  obtain ⟨n, hn, hI⟩ := RS_set (l := l) hs hp T
  have no : ¬ HS s l p T → (some (0 : Int32) : Option Int32) = some 0 → some x = some 0 ∧ M = M := fun q _ => by
    rcases hx with ⟨_, q2⟩ | ⟨rfl, _⟩
    · exact absurd q2 q
    · exact ⟨rfl, rfl⟩
  refine eX6_comesToTop M _ _ (bX6_comesToTop_0 hv.iv ha.ia M _ _ ?_)
  rw [h.2.1]
  rcases topS_or s with e | ⟨e1, e2⟩
  · rw [e]
    exact ⟨fun _ => no (fun q2 => q2.2.1 e) rfl, fun z => absurd rfl z⟩
  · refine ⟨fun z => absurd ((tvI_m1 (by omega)).mp z) (by omega), fun _ => (c_reachFrom hv ha hs h hT (by omega) hI).i ?_⟩
    rw [h.2.1, tvI_n (by omega)]
    refine bq_has _ (topS s) rfl rfl (by omega) (by omega) (fun q => no (fun q2 => by rw [(hI _).mpr q2.2.2] at q; cases q) rfl) (fun q => ?_)
    rcases hx with ⟨rfl, _⟩ | ⟨_, q2⟩
    · exact ⟨rfl, rfl⟩
    · exact absurd ((HS_iff hp).mpr ⟨by omega, (hI _).mp q⟩) q2
/-- an OATH HOLDS with helpers -/
def HH (s l : VD) (hp o : Nat) : Prop := o < s 0 2 ∧ ∃ J, Is J (RS (EB s l) (s 7 o) hp) ∧ HS s l (s 6 o) J
theorem HH_set (s l : VD) (hs : WFV s) (hp : Nat) : ∃ n, n < 4096 ∧ Is n (HH s l hp) := by
  obtain ⟨n, h1, h2⟩ := Is_ex (HH s l hp) 12
  refine ⟨n, h1, h2.cg (fun i => ⟨fun q => q.2, fun q => ⟨?_, q⟩⟩)⟩
  have := q.1
  have := hs.2.2.1
  omega
theorem RS_set2 (hs : WFV s) {A : Nat} (hA : A < 65536) (T : Nat) : ∃ n, n < 65536 ∧ Is n (RS (EB s l) A T) := by
  obtain ⟨n, h1, h2⟩ := Is_ex (RS (EB s l) A T) 16
  refine ⟨n, h1, h2.cg (fun i => ⟨fun q => q.2, fun q => ⟨?_, q⟩⟩)⟩
  rcases q.inv with h | ⟨_, a, _, h⟩
  · exact bit_lt (n := 16) hA h
  · have := (EB_lt hs h).2; have := hs.1; omega
theorem HH_0 (o : Nat) : HH s l 0 o ↔ HO s l o := by
  have key : Is (s 7 o) (RS (EB s l) (s 7 o) 0) := fun i => ⟨fun q => RS.base q, fun q => by
    rcases q.inv with q | ⟨q, _⟩
    · exact q
    · simp at q⟩
  refine ⟨fun ⟨h1, J, h2, h3⟩ => ⟨h1, ?_⟩, fun ⟨h1, h2⟩ => ⟨h1, _, key, h2⟩⟩
  rw [Is.un h2 key] at h3
  exact h3
/-- a helper in a row of steps from one that has sworn has sworn too -/
theorem HS_or {A T J : Nat} (hA : A.testBit p = true) (hJ : Is J (RS (EB s l) A T)) : HS s l p (A ||| T) ↔ HS s l p J := by
  have key : ∀ x, RS (EB s l) (2 ^ p) (A ||| T) x → RS (EB s l) (2 ^ p) J x ∧ J.testBit x = true := fun x h => by
    refine h (fun x => RS (EB s l) (2 ^ p) J x ∧ J.testBit x = true) (fun y hy => ?_) (fun a y q ht he => ?_)
    · refine ⟨RS.base hy, ?_⟩
      rw [p2_bit, decide_eq_true_eq] at hy
      rw [← hy]
      exact (hJ p).mpr (RS.base hA)
    · have hy : J.testBit y = true := by
        rw [Nat.testBit_or, Bool.or_eq_true] at ht
        rcases ht with ht | ht
        · exact (hJ y).mpr (RS.base ht)
        · exact (hJ y).mpr (RS.step ((hJ a).mp q.2) ht he)
      exact ⟨RS.step q.1 hy he, hy⟩
  have back : ∀ i, J.testBit i = true → (A ||| T).testBit i = true := fun i hi => by
    rw [Nat.testBit_or, Bool.or_eq_true]
    rcases ((hJ i).mp hi).inv with q | ⟨q, _⟩
    · exact Or.inl q
    · exact Or.inr q
  exact ⟨fun h => ⟨h.1, h.2.1, (key _ h.2.2).1⟩, fun h => ⟨h.1, h.2.1, h.2.2.mono back⟩⟩
theorem c_heldOaths (hv : vS v) (ha : aS la) (hs : WFV s) (h : STP M v la s l) {hp n : Nat} (hh : hp < 2 ^ 31) (hn : Is n (HH s l hp)) : AMp (d + 3) iX6_heldOaths [.ref 62, .int (nI hp)] M (nI n) := by
  have hO := hs.2.2.1
  have n1 := hv.n
  have i5 : ix (M 62 5) = v := by rw [h.1.1, ix_nI (by omega)]
  have hV := h.1.2.2.1
  have kO : M v 9 = nI (s 0 2) := hV.1 2 (by decide)
  refine eX6_heldOaths M _ (bX6_heldOaths_0 hv.iv ha.ia M _ ?_)
  refine up_loop (P := fun o => ∀ r, Is r (fun i => i < o ∧ HH s l hp i) → AX6_heldOaths (d + 3) (fun r M' => some (nI n) = r ∧ M = M') 4 [lR 62, lI (nI hp), lI (nI r), lI (nI o)] [] M) (s 0 2) 0 (by omega) ?_ ?_ 0 (fun i => by simp)
  · intro r hr
    refine bX6_heldOaths_4 hv.iv ha.ia M _ _ _ ⟨i5, ?_⟩
    rw [kO]
    refine bq_le _ _ rfl rfl (by omega) (by omega) (fun _ => ⟨?_, rfl⟩) (fun z => by omega)
    rw [Is.un (hr.cg (fun i => ⟨fun q => q.2, fun q => ⟨q.1, q⟩⟩)) hn]
  · intro o _ ho ih r hr
    have k6 : M (v + 6) o = nI (s 6 o) := hV.2 6 o (by decide) (by decide) (show o < 12 by omega)
    have k7 : M (v + 7) o = nI (s 7 o) := hV.2 7 o (by decide) (by decide) (show o < 12 by omega)
    have w := hs.2.2.2.2.2.2.2 o ho
    have vo : vp_in (nI o) 12 := vp_in_nI (by omega) (by decide)
    obtain ⟨J, hJ, hI⟩ := RS_set2 (l := l) hs (hs.sworn ho) hp
    refine bX6_heldOaths_4 hv.iv ha.ia M _ _ _ ⟨i5, ?_⟩
    rw [kO, nI_1 o, or1 (by omega), ix_nI (n := o) (by omega), k6, k7, fa_or (s 7 o) hp]
    obtain ⟨x, hx⟩ := HS_x s l (s 6 o) J
    refine bq_le _ _ rfl rfl (by omega) (by omega) (fun z => by omega) (fun _ => ⟨i5, vo, i5, vo, (c_comesToTop (x := x) hv ha hs h (or_lt (k := 31) (by have := hs.sworn ho; omega) hh) w.1 (hx.imp (fun q => ⟨q.1, (HS_or w.2.2 hI).mpr q.2⟩) (fun q => ⟨q.1, fun z => q.2 ((HS_or w.2.2 hI).mp z)⟩))).i ?_⟩)
    rcases hx with ⟨rfl, q⟩ | ⟨rfl, q⟩
    · refine ⟨fun z => absurd z (by decide), fun _ => ih _ (fun i => ?_)⟩
      rw [or1_bit, Bool.or_eq_true, hr i, decide_eq_true_eq]
      constructor
      · rintro (⟨a, b⟩ | rfl)
        · exact ⟨by omega, b⟩
        · exact ⟨by omega, ho, J, hI, q⟩
      · rintro ⟨a, b⟩
        by_cases e : o = i
        · exact Or.inr e
        · exact Or.inl ⟨by omega, b⟩
    · refine ⟨fun _ => ih _ (fun i => ?_), fun z => absurd rfl z⟩
      rw [hr i]
      constructor
      · rintro ⟨a, b⟩; exact ⟨by omega, b⟩
      · rintro ⟨a, b⟩
        refine ⟨?_, b⟩
        by_cases e : i = o
        · subst e
          obtain ⟨_, J2, hJ2, q2⟩ := b
          rw [Is.un hJ2 hI] at q2
          exact absurd q2 q
        · omega
end CQ
