/-! SURE -/
def MD (s : VD) (p T a : Nat) : Prop := T.testBit a = true ∧ ¬ a = p ∧ ¬ a = topS s
/-- an OATH that outlasts up to d deaths -/
def SFE (s l : VD) (p T d : Nat) : Prop := HS s l p T ∧ ∀ a b, MD s p T a → MD s p T b → (d ≤ 1 → a = b) → HS s l p (sd T (2 ^ a ||| 2 ^ b))
theorem HS.mono {s l : VD} {p T T' : Nat} (h : HS s l p T) (ht : ∀ i, T.testBit i = true → T'.testBit i = true) : HS s l p T' := ⟨h.1, h.2.1, h.2.2.mono ht⟩
theorem sd2 (T a b : Nat) : sd (sd T (2 ^ a)) (2 ^ b) = sd T (2 ^ a ||| 2 ^ b) := by
  refine Nat.eq_of_testBit_eq (fun i => ?_)
  rw [sd_bit, sd_bit, sd_bit, Nat.testBit_or]
  cases T.testBit i <;> cases (2 ^ a).testBit i <;> cases (2 ^ b).testBit i <;> rfl
theorem sd_sub {T x i : Nat} (h : (sd T x).testBit i = true) : T.testBit i = true := by
  rw [sd_bit, Bool.and_eq_true] at h; exact h.1
theorem p2_or_self (a : Nat) : 2 ^ a ||| 2 ^ a = 2 ^ a := Nat.or_self _
def oth (s : VD) (p T : Nat) : Nat := sd (sd T (2 ^ p)) (2 ^ topS s)
theorem oth_bit {s : VD} {p T a : Nat} : (oth s p T).testBit a = true ↔ MD s p T a := by
  rw [oth, sd1_bit, sd1_bit, MD]
  constructor
  · intro h
    simp only [Bool.and_eq_true, Bool.not_eq_true', decide_eq_false_iff_not] at h
    exact ⟨h.1.1, fun e => h.1.2 e.symm, fun e => h.2 e.symm⟩
  · rintro ⟨h1, h2, h3⟩
    simp only [Bool.and_eq_true, Bool.not_eq_true', decide_eq_false_iff_not]
    exact ⟨⟨h1, fun e => h2 e.symm⟩, fun e => h3 e.symm⟩
section SU
variable {d v la p : Nat} {s l : VD} {M : Mem}
theorem c_outlasts (hv : vS v) (ha : aS la) (hs : WFV s) (h : STP M v la s l) {T e : Nat} (hT : T < 65536) (hp : p < s 0 0) (he : e = 1 ∨ e = 2) {x : Int32} (hx : (x = 1 ∧ SFE s l p T e) ∨ (x = 0 ∧ ¬ SFE s l p T e)) : AMp (d + 3) iX6_outlasts [.ref 62, .int (nI p), .int (nI T), .int (nI e)] M x := by
  have hR := hs.1
  obtain ⟨y, hy⟩ := HS_x s l p T
  have no : ¬ SFE s l p T e → some x = some (0 : Int32) ∧ M = M := fun q => by
    rcases hx with ⟨_, q2⟩ | ⟨rfl, _⟩
    · exact absurd q2 q
    · exact ⟨rfl, rfl⟩
  have yes : SFE s l p T e → some x = some (1 : Int32) ∧ M = M := fun q => by
    rcases hx with ⟨rfl, _⟩ | ⟨_, q2⟩
    · exact ⟨rfl, rfl⟩
    · exact absurd q q2
  refine eX6_outlasts M _ _ _ (bX6_outlasts_0 hv.iv ha.ia M _ _ _ ((c_comesToTop hv ha hs h (by omega) hp hy).i ?_))
  rcases hy with ⟨rfl, hH⟩ | ⟨rfl, hH⟩
  · refine ⟨fun _ => ?_, fun z => absurd z (by decide)⟩
    have ht : topS s < s 0 0 := by
      rcases topS_or s with q | q
      · exact absurd q hH.2.1
      · exact q.1
    rw [sd1 (by omega), h.2.1, tvI_n (by omega), sd1 (by omega)]
    show AX6_outlasts _ _ _ [_, _, _, _, lI (nI (oth s p T)), _, _, _, _] _ _
    have ol : oth s p T < 2 ^ 31 := by
      have := sd_le (sd T (2 ^ p)) (2 ^ topS s)
      have := sd_le T (2 ^ p)
      show sd (sd T (2 ^ p)) (2 ^ topS s) < _
      omega
    refine up_loop (P := fun a => (∀ a' b, a' < a → a' ≤ b → MD s p T a' → MD s p T b → (e ≤ 1 → a' = b) → HS s l p (sd T (2 ^ a' ||| 2 ^ b))) → AX6_outlasts (d + 3) (fun r M' => some x = r ∧ M = M') 32 [lR 62, lI (nI p), lI (nI T), lI (nI e), lI (nI (oth s p T)), lI (nI a), none, none, none] [] M) 16 0 (by omega) ?_ ?_ (fun a' b ha' => by omega)
    · intro hA
      refine bX6_outlasts_32 hv.iv ha.ia M _ _ _ _ _ (bq_le 16 16 rfl rfl (by omega) (by omega) (fun _ => yes ⟨hH, fun a b h1 h2 h3 => ?_⟩) (fun z => by omega))
      have a16 : a < 16 := bit_lt (n := 16) hT h1.1
      have b16 : b < 16 := bit_lt (n := 16) hT h2.1
      by_cases z : a ≤ b
      · exact hA a b a16 z h1 h2 h3
      · rw [Nat.or_comm]; exact hA b a b16 (by omega) h2 h1 (fun q => (h3 q).symm)
    · intro a _ ha16 ih hA
      have inner : ∀ last, last < 16 → (e ≤ 1 → last = a) → (¬ e ≤ 1 → last = 15) → a ≤ last → AX6_outlasts (d + 3) (fun r M' => some x = r ∧ M = M') 57 [lR 62, lI (nI p), lI (nI T), lI (nI e), lI (nI (oth s p T)), lI (nI a), lI (nI last), lI (nI a), none] [] M := by
        intro last l16 l1 l2 l3
        cases hb : (oth s p T).testBit a with
        | false =>
          refine bX6_outlasts_57 hv.iv ha.ia M _ _ _ _ _ _ _ ?_
          rw [nI_1 a]
          refine bq_has _ a rfl rfl ol (by omega) (fun _ => ih (fun a' b q1 q2 q3 q4 q5 => ?_)) (fun z => by rw [hb] at z; cases z)
          by_cases z : a' = a
          · rw [z] at q3; rw [oth_bit.mpr q3] at hb; cases hb
          · exact hA a' b (by omega) q2 q3 q4 q5
        | true =>
          refine up_loop (P := fun b => a ≤ b → (∀ b', a ≤ b' → b' < b → MD s p T b' → HS s l p (sd T (2 ^ a ||| 2 ^ b'))) → AX6_outlasts (d + 3) (fun r M' => some x = r ∧ M = M') 57 [lR 62, lI (nI p), lI (nI T), lI (nI e), lI (nI (oth s p T)), lI (nI a), lI (nI last), lI (nI b), none] [] M) (last + 1) a (by omega) ?_ ?_ (Nat.le_refl _) (fun b' q1 q2 => by omega)
          · intro _ hB
            refine bX6_outlasts_57 hv.iv ha.ia M _ _ _ _ _ _ _ ?_
            rw [nI_1 a]
            refine bq_has _ a rfl rfl ol (by omega) (fun z => by rw [hb] at z; cases z) (fun _ => bq_lt _ _ rfl rfl (by omega) (by omega) (fun _ => ih (fun a' b q1 q2 q3 q4 q5 => ?_)) (fun z => by omega))
            by_cases z : a' = a
            · subst z
              have b16 : b < 16 := bit_lt (n := 16) hT q4.1
              refine hB b q2 ?_ q4
              by_cases e1 : e ≤ 1
              · have := q5 e1; have := l1 e1; omega
              · have := l2 e1; omega
            · exact hA a' b (by omega) q2 q3 q4 q5
          · intro b hab hlt ih2 _ hB
            refine bX6_outlasts_57 hv.iv ha.ia M _ _ _ _ _ _ _ ?_
            rw [nI_1 a, nI_1 b, shl1 a (by omega), shl1 b (by omega), fa_or, andn]
            refine bq_has _ a rfl rfl ol (by omega) (fun z => by rw [hb] at z; cases z) (fun _ => bq_lt _ _ rfl rfl (by omega) (by omega) (fun z => by omega) (fun _ => bq_has _ b rfl rfl ol (by omega) (fun q => ih2 (by omega) (fun b' q1 q2 q3 => ?_)) (fun q => ?_)))
            · by_cases z : b' = b
              · rw [z] at q3; rw [oth_bit.mpr q3] at q; cases q
              · exact hB b' q1 (by omega) q3
            · obtain ⟨w, hw⟩ := HS_x s l p (sd T (2 ^ a ||| 2 ^ b))
              have := sd_le T (2 ^ a ||| 2 ^ b)
              refine (c_comesToTop hv ha hs h (by omega) hp hw).i ?_
              rcases hw with ⟨rfl, w2⟩ | ⟨rfl, w2⟩
              · refine ⟨fun _ => ih2 (by omega) (fun b' q1 q2 q3 => ?_), fun z => absurd z (by decide)⟩
                by_cases z : b' = b
                · rw [z]; exact w2
                · exact hB b' q1 (by omega) q3
              · refine ⟨fun z => absurd rfl z, fun _ => no (fun q2 => w2 (q2.2 a b (oth_bit.mp hb) (oth_bit.mp q) (fun e1 => ?_)))⟩
                have := l1 e1
                omega
      refine bX6_outlasts_32 hv.iv ha.ia M _ _ _ _ _ (bq_le 16 a rfl rfl (by omega) (by omega) (fun z => by omega) (fun _ => bq_le e 1 rfl rfl (by omega) (by omega) (fun z => ?_) (fun z => ?_)))
      · exact inner a ha16 (fun _ => rfl) (fun q => absurd z q) (Nat.le_refl _)
      · exact inner 15 (by omega) (fun q => by omega) (fun _ => rfl) (by omega)
  · exact ⟨fun z => absurd rfl z, fun _ => no (fun q => hH q.1)⟩
/-- the model's way -/
theorem cnt_0 {n : Nat} (hn : n < 65536) (h : cnt n = 0) : ∀ a, n.testBit a = false := fun a => by
  by_cases z : a < 16
  · exact fb_ct_zero.mp h a z
  · cases e : n.testBit a with
    | false => rfl
    | true => exact absurd (bit_lt (n := 16) hn e) z
theorem cnt_pos {n : Nat} (h : 0 < cnt n) : ∃ a, a < 16 ∧ n.testBit a = true := fb_ct_pos.mp h
theorem cnt_ge2 {n : Nat} (h : 2 ≤ cnt n) (a : Nat) : ∃ b, b < 16 ∧ n.testBit b = true ∧ ¬ b = a := by
  obtain ⟨i, hi, h1, h2⟩ := fb_ct_kth (p := fun j => n.testBit j) (k := 0) (n := 16) (show 0 < cnt n by omega)
  obtain ⟨j, hj, h3, h4⟩ := fb_ct_kth (p := fun j => n.testBit j) (k := 1) (n := 16) (show 1 < cnt n by omega)
  by_cases z : i = a
  · refine ⟨j, hj, h3, fun e => ?_⟩
    rw [e, ← z] at h4
    omega
  · exact ⟨i, hi, h1, z⟩
theorem cnt_1 {n : Nat} (hn : n < 65536) (h : cnt n ≤ 1) {a b : Nat} (ha : n.testBit a = true) (hb : n.testBit b = true) : a = b := by
  have a16 : a < 16 := bit_lt (n := 16) hn ha
  have b16 : b < 16 := bit_lt (n := 16) hn hb
  have key : ∀ a, a < 16 → n.testBit a = true → fb_ct (fun j => n.testBit j) a = 0 := fun a a16 ha => by
    have h1 : fb_ct (fun j => n.testBit j) (a + 1) ≤ cnt n := fb_ct_mono _ (by omega)
    rw [fb_ct_succ, ha] at h1
    simp at h1
    omega
  exact fb_ct_kth_one (p := fun j => n.testBit j) ha hb (by rw [key a a16 ha, key b b16 hb])
theorem SFE_iff {T e : Nat} (hs : WFV s) (hT : T < 65536) (he : e = 1 ∨ e = 2) (m : Nat) (hm : m = min e (cnt (oth s p T))) : SFE s l p T e ↔ (m = 0 → HS s l p T) ∧ (m = 1 → ∀ a, MD s p T a → HS s l p (sd T (2 ^ a))) ∧ (m = 2 → ∀ a b, a < b → MD s p T a → MD s p T b → HS s l p (sd T (2 ^ a ||| 2 ^ b))) := by
  have ol : oth s p T < 65536 := by
    have := sd_le (sd T (2 ^ p)) (2 ^ topS s)
    have := sd_le T (2 ^ p)
    show sd (sd T (2 ^ p)) (2 ^ topS s) < _
    omega
  constructor
  · intro h
    refine ⟨fun _ => h.1, fun _ a q => ?_, fun q a b _ q1 q2 => h.2 a b q1 q2 (fun z => by omega)⟩
    have := h.2 a a q q (fun _ => rfl)
    rw [p2_or_self] at this
    exact this
  · rintro ⟨h0, h1, h2⟩
    have key : ∀ a b, MD s p T a → MD s p T b → (e ≤ 1 → a = b) → HS s l p (sd T (2 ^ a ||| 2 ^ b)) := by
      intro a b qa qb qe
      have ba := oth_bit.mpr qa
      have bb := oth_bit.mpr qb
      have c0 : ¬ cnt (oth s p T) = 0 := fun z => by have := cnt_0 ol z a; rw [ba] at this; cases this
      have same : a = b → HS s l p (sd T (2 ^ a ||| 2 ^ b)) := by
        rintro rfl
        rw [p2_or_self]
        by_cases m1 : m = 1
        · exact h1 m1 a qa
        · obtain ⟨c, c16, c1, c2⟩ := cnt_ge2 (n := oth s p T) (by omega) a
          have qc := oth_bit.mp c1
          have : HS s l p (sd T (2 ^ a ||| 2 ^ c)) := by
            by_cases z : a < c
            · exact h2 (by omega) a c z qa qc
            · rw [Nat.or_comm]; exact h2 (by omega) c a (by omega) qc qa
          refine this.mono (fun i hi => ?_)
          rw [← sd2] at hi
          exact sd_sub hi
      by_cases m1 : m = 1
      · refine same ?_
        by_cases e1 : e ≤ 1
        · exact qe e1
        · exact cnt_1 ol (by omega) ba bb
      · by_cases z : a = b
        · exact same z
        · by_cases z2 : a < b
          · exact h2 (by omega) a b z2 qa qb
          · rw [Nat.or_comm]; exact h2 (by omega) b a (by omega) qb qa
    refine ⟨?_, key⟩
    by_cases z : cnt (oth s p T) = 0
    · exact h0 (by omega)
    · obtain ⟨a, _, q⟩ := cnt_pos (n := oth s p T) (by omega)
      exact (key a a (oth_bit.mp q) (oth_bit.mp q) (fun _ => rfl)).mono (fun i hi => sd_sub hi)
theorem c_isSafe (hs : WFV s) (h : VM M s) (hA : ASK M s l) {T e : Nat} (hT : T < 2 ^ s 0 0) (hp : p < s 0 0) (ht : ¬ topS s = 31) (he : e = 1 ∨ e = 2) {x : Int32} (hx : (x = 1 ∧ SFE s l p T e) ∨ (x = 0 ∧ ¬ SFE s l p T e)) : AMp (d + 3) iX10_isSafe [.ref 77, .int (nI p), .int (nI T), .int (nI e)] M x := by
  have hR := hs.1
  have hT2 : T < 65536 := Nat.lt_of_lt_of_le hT (Nat.pow_le_pow_right (by omega) hR)
  have kn : M 77 0 = nI (s 0 0) := h.1 0 (by decide)
  have tp : topS s < s 0 0 := by
    rcases topS_or s with q | q
    · exact absurd q ht
    · exact q.1
  have iff := SFE_iff (l := l) (p := p) hs hT2 he _ rfl
  generalize hm : min e (cnt (oth s p T)) = m at iff
  have m2 : m ≤ 2 := by omega
  have no : ¬ SFE s l p T e → some x = some (0 : Int32) ∧ M = M := fun q => by
    rcases hx with ⟨_, q2⟩ | ⟨rfl, _⟩
    · exact absurd q2 q
    · exact ⟨rfl, rfl⟩
  have yes : SFE s l p T e → some x = some (1 : Int32) ∧ M = M := fun q => by
    rcases hx with ⟨rfl, _⟩ | ⟨_, q2⟩
    · exact ⟨rfl, rfl⟩
    · exact absurd q q2
  have ol : oth s p T < 2 ^ 31 := by
    have := sd_le (sd T (2 ^ p)) (2 ^ topS s)
    have := sd_le T (2 ^ p)
    show sd (sd T (2 ^ p)) (2 ^ topS s) < _
    omega
  refine eX10_isSafe M _ _ _ (bX10_isSafe_0 M _ _ _ ((c_topOf hs h).i ⟨fun z => absurd ((tvI_m1 (by omega)).mp z) ht, fun _ => ?_⟩))
  rw [sd1 (by omega), tvI_n ht, sd1 (by omega)]
  show AX10_isSafe _ _ _ [_, _, _, _, lI (nI (oth s p T)), _, _, _, _] _ _
  refine bX10_isSafe_32 M _ _ _ _ ?_
  have c16 := cnt_le (oth s p T)
  rw [bits_nI ol, min_nI (by omega) (by omega), hm]
  refine bq_ne m 0 rfl rfl (by omega) (by omega) (fun m0 => ?_) (fun m0 => ?_)
  · have md : ∀ a, MD s p T a → a < s 0 0 := fun a q => bit_lt hT q.1
    refine up_loop (P := fun a => (∀ a', a' < a → MD s p T a' → (m = 1 → HS s l p (sd T (2 ^ a'))) ∧ (m = 2 → ∀ b, a' < b → MD s p T b → HS s l p (sd T (2 ^ a' ||| 2 ^ b)))) → AX10_isSafe (d + 3) (fun r M' => some x = r ∧ M = M') 58 [lR 77, lI (nI p), lI (nI T), none, lI (nI (oth s p T)), none, lI (nI m), lI (nI a), none] [] M) (s 0 0) 0 (by omega) ?_ ?_ (fun a' ha' => by omega)
    · intro hB
      refine bX10_isSafe_58 M _ _ _ _ _ ?_
      rw [kn]
      exact bq_le _ _ rfl rfl (by omega) (by omega) (fun _ => yes (iff.mpr ⟨fun z => absurd z m0, fun z a q => (hB a (md a q) q).1 z, fun z a b q1 q2 q3 => (hB a (md a q2) q2).2 z b q1 q3⟩)) (fun z => by omega)
    · intro a _ ha ih hB
      refine bX10_isSafe_58 M _ _ _ _ _ ?_
      rw [kn, nI_1 a, sd1 (by omega)]
      refine bq_le _ _ rfl rfl (by omega) (by omega) (fun z => by omega) (fun _ => bq_hasn _ a rfl rfl ol (by omega) (fun q => ?_) (fun q => ih (fun a' q1 q2 => ?_)))
      · have qa := oth_bit.mp q
        have nxt : (m = 1 → HS s l p (sd T (2 ^ a))) → AX10_isSafe (d + 3) (fun r M' => some x = r ∧ M = M') 110 [lR 77, lI (nI p), lI (nI T), none, lI (nI (oth s p T)), none, lI (nI m), lI (nI a), lI (nI (a + 1))] [] M := by
          intro hm1
          refine up_loop (P := fun b => (m = 2 → ∀ b', a < b' → b' < b → MD s p T b' → HS s l p (sd T (2 ^ a ||| 2 ^ b'))) → AX10_isSafe (d + 3) (fun r M' => some x = r ∧ M = M') 110 [lR 77, lI (nI p), lI (nI T), none, lI (nI (oth s p T)), none, lI (nI m), lI (nI a), lI (nI b)] [] M) (s 0 0) (a + 1) (by omega) ?_ ?_ (fun _ b' q1 q2 => by omega)
          · intro hC
            refine bX10_isSafe_110 M _ _ _ _ _ _ ?_
            rw [kn, nI_1 a]
            refine bq_le _ _ rfl rfl (by omega) (by omega) (fun _ => ih (fun a' q1 q2 => ?_)) (fun z => by omega)
            by_cases z : a' = a
            · subst z; exact ⟨hm1, fun w b w1 w2 => hC w b w1 (md b w2) w2⟩
            · exact hB a' (by omega) q2
          · intro b hab hb ih2 hC
            refine bX10_isSafe_110 M _ _ _ _ _ _ ?_
            rw [kn, nI_1 a, nI_1 b, sd1 (by omega), sd1 (by omega), sd2]
            refine bq_le _ _ rfl rfl (by omega) (by omega) (fun z => by omega) (fun _ => bq_ne m 2 rfl rfl (by omega) (by omega) (fun w => ih (fun a' q1 q2 => ?_)) (fun w => bq_has _ b rfl rfl ol (by omega) (fun qb => ih2 (fun _ b' q1 q2 q3 => ?_)) (fun qb => ?_)))
            · by_cases z : a' = a
              · subst z; exact ⟨hm1, fun w' => absurd w' w⟩
              · exact hB a' (by omega) q2
            · by_cases z : b' = b
              · rw [z] at q3; rw [oth_bit.mpr q3] at qb; cases qb
              · exact hC w b' q1 (by omega) q3
            · obtain ⟨y, hy⟩ := HS_x s l p (sd T (2 ^ a ||| 2 ^ b))
              have := sd_le T (2 ^ a ||| 2 ^ b)
              refine (c_holdsBy hs h hA (by omega) hp hy).i ?_
              rcases hy with ⟨rfl, w2⟩ | ⟨rfl, w2⟩
              · refine ⟨fun _ => ih2 (fun _ b' q1 q2 q3 => ?_), fun z => absurd z (by decide)⟩
                by_cases z : b' = b
                · rw [z]; exact w2
                · exact hC w b' q1 (by omega) q3
              · exact ⟨fun z => absurd rfl z, fun _ => no (fun q2 => w2 ((iff.mp q2).2.2 w a b (by omega) qa (oth_bit.mp qb)))⟩
        refine bq_ne m 1 rfl rfl (by omega) (by omega) (fun w => nxt (fun w' => absurd w' w)) (fun w => ?_)
        obtain ⟨y, hy⟩ := HS_x s l p (sd T (2 ^ a))
        have := sd_le T (2 ^ a)
        refine (c_holdsBy hs h hA (by omega) hp hy).i ?_
        rcases hy with ⟨rfl, w2⟩ | ⟨rfl, w2⟩
        · exact ⟨fun _ => nxt (fun _ => w2), fun z => absurd z (by decide)⟩
        · exact ⟨fun z => absurd rfl z, fun _ => no (fun q2 => w2 ((iff.mp q2).2.1 w a qa))⟩
      · by_cases z : a' = a
        · rw [z] at q2; rw [oth_bit.mpr q2] at q; cases q
        · exact hB a' (by omega) q2
  · obtain ⟨y, hy⟩ := HS_x s l p T
    refine (c_holdsBy hs h hA (by omega) hp hy).i ⟨?_, ?_⟩
    · rcases hy with ⟨q, _⟩ | ⟨q, _⟩
      · exact Or.inr q
      · exact Or.inl q
    · rcases hy with ⟨rfl, w2⟩ | ⟨rfl, w2⟩
      · exact yes (iff.mpr ⟨fun _ => w2, fun z => by omega, fun z => by omega⟩)
      · exact no (fun q => w2 q.1)
end SU
theorem SFE_x (s l : VD) (p T e : Nat) : ∃ x : Int32, (x = 1 ∧ SFE s l p T e) ∨ (x = 0 ∧ ¬ SFE s l p T e) := by
  by_cases h : SFE s l p T e
  · exact ⟨1, Or.inl ⟨rfl, h⟩⟩
  · exact ⟨0, Or.inr ⟨rfl, h⟩⟩
theorem op_sure {S : SS} (hW : WF S) (x1 : Int32) : Op S iX9_sure iX10_sure [.int x1] := by
  have hs := hW.1
  have hn := hs.1
  have hO := hs.2.2.1
  by_cases c1 : ¬ isPV (nI (S 0 0 2)) x1 = 0
  · obtain ⟨a1, a2⟩ := isP_nI (by omega) c1
    generalize ix x1 = o at a1 a2
    subst a2
    have w := hs.2.2.2.2.2.2.2 o a1
    have vo : vp_in (nI o) 12 := vp_in_nI (by omega) (by decide)
    have ws := hs.sworn a1
    obtain ⟨x, hx⟩ := SFE_x (S 0) (S 2) (S 0 6 o) (S 0 7 o) 1
    refine ⟨x, S, hW, fun M h => ?_, fun M h => ?_⟩
    · have kn : M 1 9 = nI (S 0 0 2) := h.1.1 2 (by decide)
      refine eX9_sure M _ (bX9_sure_0 M _ ?_)
      rw [kn]
      refine ⟨fun _ => (c_reckonC (d := 55) vS_1 aS_37 hs hW.l0 h.1 h.l0).mono (fun M1 h1 => ⟨vo, vo, ?_⟩), fun z => absurd z c1⟩
      have k6 : M1 7 o = nI (S 0 6 o) := h1.1.1.2.2.1.2 6 o (by decide) (by decide) (show o < 12 by omega)
      have k7 : M1 8 o = nI (S 0 7 o) := h1.1.1.2.2.1.2 7 o (by decide) (by decide) (show o < 12 by omega)
      rw [ix_nI (by omega), k6, k7]
      refine (c_outlasts (d := 56) (e := 1) vS_1 aS_37 hs h1.1 ws w.1 (Or.inl rfl) hx).i ?_
      rcases hx with ⟨rfl, q⟩ | ⟨rfl, q⟩
      · exact ⟨fun z => absurd z (by decide), fun _ => ⟨_, rfl, rfl, h1.2.high aS_37, h.sf aS_37 h1.2⟩⟩
      · exact ⟨fun _ => ⟨_, rfl, rfl, h1.2.high aS_37, h.sf aS_37 h1.2⟩, fun z => absurd rfl z⟩
    · have kn : M 77 34 = nI (S 0 0 2) := h.1.1 2 (by decide)
      refine eX10_sure M _ (bX10_sure_0 M _ ?_)
      rw [kn]
      refine ⟨fun _ => (c_laysSteps (d := 55) (w := 0) hs hW.l0 h.1 (by omega) h.l0).mono (fun M1 h1 => ?_), fun z => absurd z c1⟩
      have h' := h.off h1.2
      have k6 : M1 99 o = nI (S 0 6 o) := h'.1.2 6 o (by decide) (by decide) (show o < 12 by omega)
      have k7 : M1 101 o = nI (S 0 7 o) := h'.1.2 7 o (by decide) (by decide) (show o < 12 by omega)
      obtain ⟨y, hy⟩ := HS_x (S 0) (S 2) (S 0 6 o) (S 0 7 o)
      refine (c_holdsNow (d := 56) hs h'.1 h1.1 a1 hy).i ?_
      rw [ix_nI (by omega), k6, k7]
      rcases hy with ⟨rfl, hH⟩ | ⟨rfl, hH⟩
      · refine ⟨fun z => absurd z (by decide), fun _ => ⟨vo, vo, (c_isSafe (d := 56) (e := 1) hs h'.1 h1.1 w.2.1 w.1 hH.2.1 (Or.inl rfl) hx).i ?_⟩⟩
        rcases hx with ⟨rfl, q⟩ | ⟨rfl, q⟩
        · exact ⟨fun z => absurd z (by decide), fun _ => ⟨_, rfl, rfl, low_98 h1.2, h'⟩⟩
        · exact ⟨fun _ => ⟨_, rfl, rfl, low_98 h1.2, h'⟩, fun z => absurd rfl z⟩
      · refine ⟨fun _ => ⟨_, rfl, ?_, low_98 h1.2, h'⟩, fun z => absurd rfl z⟩
        rcases hx with ⟨_, q⟩ | ⟨rfl, q⟩
        · exact absurd q.1 hH
        · rfl
  · refine ⟨-1, S, hW, fun M h => ?_, fun M h => ?_⟩
    · have kn : M 1 9 = nI (S 0 0 2) := h.1.1 2 (by decide)
      refine eX9_sure M _ (bX9_sure_0 M _ ?_)
      rw [kn]
      exact ⟨fun z => absurd z c1, fun _ => ⟨_, rfl, rfl, FrM.rf M, h⟩⟩
    · have kn : M 77 34 = nI (S 0 0 2) := h.1.1 2 (by decide)
      refine eX10_sure M _ (bX10_sure_0 M _ ?_)
      rw [kn]
      exact ⟨fun z => absurd z c1, fun _ => ⟨_, rfl, rfl, FrC.rf M, h⟩⟩
