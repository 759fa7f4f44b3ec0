/-! AGAINST: the class's play -/
def plF (f : Nat → Nat) (ok : Nat → Bool) (w0 : Nat) : Nat → Nat × Nat
  | 0 => (w0, 0)
  | p + 1 => if ok p = true ∧ (plF f ok w0 p).1 < f p then (f p, p + 1) else plF f ok w0 p
def okP (s l : VD) (m t p : Nat) : Bool := !(m ||| t).testBit p && decide (¬ lbN s l m p (s 0 0) = 1000000000)
/-- what comes out for the one whose turn it is, 0 to 2; with n turns left -/
def pvN (s l : VD) (h : Nat → Nat → Nat) : Nat → Nat → Nat → Nat → Nat
  | 0, c, m, t => h c m + 1 - h (1 - c) t
  | n + 1, c, m, t => (plF (fun p => 2 - pvN s l h n (1 - c) t (m ||| 2 ^ p)) (okP s l m t) (2 - pvN s l h n (1 - c) t m) 16).1
def plV (s l : VD) (h : Nat → Nat → Nat) (n c m t : Nat) : Nat → Nat × Nat := plF (fun p => 2 - pvN s l h n (1 - c) t (m ||| 2 ^ p)) (okP s l m t) (2 - pvN s l h n (1 - c) t m)
theorem plF_le {f : Nat → Nat} {ok : Nat → Bool} {w0 : Nat} (h0 : w0 ≤ 2) (hf : ∀ p, f p ≤ 2) : ∀ p, (plF f ok w0 p).1 ≤ 2 ∧ (plF f ok w0 p).2 ≤ p
  | 0 => ⟨h0, Nat.le_refl _⟩
  | p + 1 => by
    have ih := plF_le (ok := ok) h0 hf p
    rw [plF]
    split
    · exact ⟨hf p, by show p + 1 ≤ p + 1; omega⟩
    · exact ⟨ih.1, by omega⟩
theorem plF_top {f : Nat → Nat} {ok : Nat → Bool} {w0 p : Nat} (hf : ∀ p, f p ≤ 2) (h : (plF f ok w0 p).1 = 2) : ∀ m, plF f ok w0 (p + m) = plF f ok w0 p
  | 0 => rfl
  | m + 1 => by
    show plF f ok w0 ((p + m) + 1) = _
    have ih := plF_top hf h m
    rw [plF, ih, if_neg (fun w => by have := hf (p + m); omega)]
theorem pv_le {s l : VD} {h : Nat → Nat → Nat} (hh : ∀ c x, h c x ≤ 1) : ∀ n c m t, pvN s l h n c m t ≤ 2
  | 0, c, m, t => by have := hh c m; rw [pvN]; omega
  | n + 1, c, m, t => by
    rw [pvN]
    exact (plF_le (by omega) (fun p => by show 2 - _ ≤ 2; omega) 16).1
def cI (w : Nat) : Int32 := nI w - 1
def tuI (u : Nat) : Int32 := if u = 0 then -2 else nI (u - 1)
theorem cI_neg : ∀ w, w ≤ 2 → -cI w = cI (2 - w)
  | 0, _ => by decide
  | 1, _ => by decide
  | 2, _ => by decide
  | w + 3, h => by omega
theorem cI_le : ∀ a, a ≤ 2 → ∀ b, b ≤ 2 → (cI a ≤ cI b ↔ a ≤ b)
  | 0, _, 0, _ => by decide
  | 0, _, 1, _ => by decide
  | 0, _, 2, _ => by decide
  | 1, _, 0, _ => by decide
  | 1, _, 1, _ => by decide
  | 1, _, 2, _ => by decide
  | 2, _, 0, _ => by decide
  | 2, _, 1, _ => by decide
  | 2, _, 2, _ => by decide
  | a + 3, h, _, _ => by omega
  | _, _, b + 3, h => by omega
theorem cI_sub : ∀ a, a ≤ 1 → ∀ b, b ≤ 1 → nI a - nI b = cI (a + 1 - b)
  | 0, _, 0, _ => by decide
  | 0, _, 1, _ => by decide
  | 1, _, 0, _ => by decide
  | 1, _, 1, _ => by decide
  | a + 2, h, _, _ => by omega
  | _, _, b + 2, h => by omega
section PC
variable {d v la : Nat} {s l : VD} {M : Mem}
theorem c_standing (hv : vS v) (ha : aS la) (hs : WFV s) (h : STP M v la s l) {ow : Nat → Nat} (hw : ∀ c, c ≤ 1 → ow c < s 0 0 ∧ M 75 c = nI (ow c)) {hb : Nat → Nat → Nat} (hh : ∀ c x, hb c x ≤ 1 ∧ (hb c x = 1 ↔ HS s l (ow c) x)) {c x : Nat} (hc : c ≤ 1) (hx : x < 65536) : AMp (d + 3) iX1_standing [.ref 74, .int (nI c), .int (nI x)] M (nI (hb c x)) := by
  obtain ⟨w1, w2⟩ := hw c hc
  obtain ⟨b1, b2⟩ := hh c x
  refine eX1_standing M _ _ (bX1_standing_0 M _ _ ⟨vp_in_nI (by omega) (by decide), ?_⟩)
  rw [ix_nI (by omega), w2]
  obtain ⟨y, hy⟩ := HS_x s l (ow c) x
  refine (c_comesToTop hv ha hs h (by omega) w1 hy).i ?_
  rcases hy with ⟨rfl, q⟩ | ⟨rfl, q⟩
  · refine ⟨fun z => absurd z (by decide), fun _ => ⟨?_, rfl⟩⟩
    rw [b2.mpr q]; rfl
  · refine ⟨fun _ => ⟨?_, rfl⟩, fun z => absurd rfl z⟩
    have : hb c x = 0 := by
      by_cases e : hb c x = 1
      · exact absurd (b2.mp e) q
      · omega
    rw [this]; rfl
theorem sub_c : ∀ c, c ≤ 1 → (1 : Int32) - nI c = nI (1 - c)
  | 0, _ => by decide
  | 1, _ => by decide
  | c + 2, h => by omega
theorem okP_iff (hs : WFV s) {m t p n : Nat} (hn : Is n (fun a => EB s l a p = true)) : okP s l m t p = true ↔ (m ||| t).testBit p = false ∧ ¬ n &&& m = 0 := by
  rw [okP, Bool.and_eq_true, Bool.not_eq_true', decide_eq_true_eq, and_ne]
  refine and_congr_right (fun _ => ?_)
  constructor
  · intro q
    refine Classical.byContradiction (fun w => q ((lbN_far hs _).mpr (fun a _ h2 => ?_)))
    cases e : EB s l a p with
    | false => rfl
    | true => exact absurd ⟨a, (hn a).mpr e, h2⟩ w
  · rintro ⟨a, a1, a2⟩ q
    have e : EB s l a p = true := (hn a).mp a1
    have := (lbN_far hs _).mp q a (EB_lt hs e).1 a2
    rw [this] at e
    cases e
theorem c_play (hv : vS v) (ha : aS la) (hs : WFV s) {ow : Nat → Nat} {hb : Nat → Nat → Nat} (hh : ∀ c x, hb c x ≤ 1 ∧ (hb c x = 1 ↔ HS s l (ow c) x)) : ∀ (n c m t : Nat) (M : Mem), n ≤ 4 → c ≤ 1 → m < 65536 → t < 65536 → STP M v la s l → (∀ c, c ≤ 1 → ow c < s 0 0 ∧ M 75 c = nI (ow c)) → AMi (d + 4 + n) iX1_play [.ref 74, .int (nI c), .int (nI m), .int (nI t), .int (nI n)] M (fun r M' => r = cI (pvN s l hb n c m t) ∧ (∀ n', n = n' + 1 → M' 74 2 = tuI (plV s l hb n' c m t 16).2) ∧ ∀ k, k ≠ 74 → M' k = M k) := by
  have hl : ∀ n c m t, pvN s l hb n c m t ≤ 2 := pv_le (fun c x => (hh c x).1)
  intro n
  induction n with
  | zero =>
    intro c m t M _ hc hm ht h hw
    refine eX1_play M _ _ _ _ (bX1_play_0 M _ _ _ _ ⟨fun z => absurd z (Int32.lt_irrefl), fun _ => ?_⟩)
    refine (c_standing (d := d) hv ha hs h hw hh hc hm).i ?_
    rw [sub_c c hc]
    refine (c_standing (d := d) hv ha hs h hw hh (show 1 - c ≤ 1 by omega) ht).i ?_
    rw [cI_sub _ (hh c m).1 _ (hh (1 - c) t).1]
    exact ⟨_, rfl, rfl, fun n' e => by omega, fun _ _ => rfl⟩
  | succ n ih =>
    intro c m t M hn hc hm ht h hw
    have hn1 := hs.1
    have keepS : ∀ M' : Mem, (∀ k, k ≠ 74 → M' k = M k) → STP M' v la s l ∧ (∀ c, c ≤ 1 → ow c < s 0 0 ∧ M' 75 c = nI (ow c)) := fun M' g => ⟨h.cg hv ha (g 62 (by omega)) (g 64 (by omega)) (g 65 (by omega)) (by rw [g 68 (by omega)]) (by rw [g 68 (by omega)]) (fun k hk _ => g k (by omega)), fun c hc => ⟨(hw c hc).1, by rw [g 75 (by omega)]; exact (hw c hc).2⟩⟩
    have hf : ∀ p, 2 - pvN s l hb n (1 - c) t (m ||| 2 ^ p) ≤ 2 := fun p => by omega
    have F : ∀ p, plV s l hb n c m t (p + 1) = if okP s l m t p = true ∧ (plV s l hb n c m t p).1 < 2 - pvN s l hb n (1 - c) t (m ||| 2 ^ p) then (2 - pvN s l hb n (1 - c) t (m ||| 2 ^ p), p + 1) else plV s l hb n c m t p := fun p => rfl
    have Fl : ∀ p, (plV s l hb n c m t p).1 ≤ 2 ∧ (plV s l hb n c m t p).2 ≤ p := plF_le (by omega) hf
    have eV : pvN s l hb (n + 1) c m t = (plV s l hb n c m t 16).1 := rfl
    have fin : ∀ (M' : Mem) p, (∀ k, k ≠ 74 → M' k = M k) → plV s l hb n c m t 16 = plV s l hb n c m t p → ∃ x, some (cI (plV s l hb n c m t p).1) = some x ∧ x = cI (pvN s l hb (n + 1) c m t) ∧ (∀ n', n + 1 = n' + 1 → (wr M' 74 2 (tuI (plV s l hb n c m t p).2)) 74 2 = tuI (plV s l hb n' c m t 16).2) ∧ ∀ k, k ≠ 74 → (wr M' 74 2 (tuI (plV s l hb n c m t p).2)) k = M k := by
      intro M' p g e
      refine ⟨_, rfl, by rw [eV, e], fun n' en => ?_, fun k hk => (wr_row hk).trans (g k hk)⟩
      have : n' = n := by omega
      rw [this, e]
      exact wr_same _ _ _ _
    refine eX1_play M _ _ _ _ (bX1_play_0 M _ _ _ _ (bq_lt 0 (n + 1) rfl rfl (by omega) (by omega) (fun _ => ?_) (fun z => by omega)))
    rw [sub_c c hc, nI_pred]
    refine (ih (1 - c) t m M (by omega) (by omega) ht hm h hw).mono (fun r M1 hr => ?_)
    obtain ⟨rfl, _, g1⟩ := hr
    rw [cI_neg _ (hl _ _ _ _)]
    refine up_loop (P := fun p => ∀ M', (∀ k, k ≠ 74 → M' k = M k) → AX1_play (d + 4 + (n + 1)) (fun r M' => ∃ x, r = some x ∧ x = cI (pvN s l hb (n + 1) c m t) ∧ (∀ n', n + 1 = n' + 1 → M' 74 2 = tuI (plV s l hb n' c m t 16).2) ∧ ∀ k, k ≠ 74 → M' k = M k) 44 [lR 74, lI (nI c), lI (nI m), lI (nI t), lI (nI (n + 1)), lI (cI (plV s l hb n c m t p).1), lI (tuI (plV s l hb n c m t p).2), lI (nI p), none] [] M') 16 0 (by omega) ?_ ?_ M1 g1
    · intro M' g
      exact bX1_play_44 M' _ _ _ _ _ _ _ (bq_le 16 16 rfl rfl (by omega) (by omega) (fun _ => fin M' 16 g rfl) (fun z => by omega))
    · intro p _ hp ihp M' g
      obtain ⟨hS, hO⟩ := keepS M' g
      obtain ⟨b, b1, b2, b3⟩ := hS.2.2.2 p hp
      have fl := Fl p
      have Fp := F p
      have ok := okP_iff (m := m) (t := t) hs b3
      have mt : m ||| t < 65536 := or_lt (k := 16) hm ht
      have bm : b &&& m < 2 ^ 16 := Nat.and_lt_two_pow b hm
      have skip : ¬ (okP s l m t p = true ∧ (plV s l hb n c m t p).1 < 2 - pvN s l hb n (1 - c) t (m ||| 2 ^ p)) → ∀ M'', (∀ k, k ≠ 74 → M'' k = M k) → AX1_play (d + 4 + (n + 1)) (fun r M' => ∃ x, r = some x ∧ x = cI (pvN s l hb (n + 1) c m t) ∧ (∀ n', n + 1 = n' + 1 → M' 74 2 = tuI (plV s l hb n' c m t 16).2) ∧ ∀ k, k ≠ 74 → M' k = M k) 44 [lR 74, lI (nI c), lI (nI m), lI (nI t), lI (nI (n + 1)), lI (cI (plV s l hb n c m t p).1), lI (tuI (plV s l hb n c m t p).2), lI (nI (p + 1)), none] [] M'' := by
        intro q M'' g2
        have := ihp M'' g2
        rw [Fp, if_neg q] at this
        exact this
      refine bX1_play_44 M' _ _ _ _ _ _ _ ?_
      rw [fa_or, nI_1 p, ix_nI (by omega), b2, fa_and, or1 (by omega), sub_c c hc, nI_pred]
      refine bq_le 16 _ rfl rfl (by omega) (by omega) (fun z => by omega) (fun _ => ⟨fun z => ?_, fun z => bq_hasn _ p rfl rfl (by omega) (by omega) (fun q => skip (fun w => by rw [(ok.mp w.1).1] at q; cases q) M' g) (fun q => ⟨vp_in_nI hp (by decide), bq_eq _ 0 rfl rfl (by omega) (by omega) (fun q2 => skip (fun w => (ok.mp w.1).2 q2) M' g) (fun q2 => ?_)⟩)⟩)
      · have w2 : (plV s l hb n c m t p).1 = 2 := by
          have := (cI_le 2 (by omega) _ fl.1).mp z
          omega
        refine fin M' p g ?_
        have := plF_top hf w2 (16 - p)
        rw [Nat.add_sub_cancel' (by omega)] at this
        exact this
      · refine (ih (1 - c) t (m ||| 2 ^ p) M' (by omega) (by omega) ht (or_lt (k := 16) hm (p2_lt hp)) hS hO).mono (fun r M2 hr => ?_)
        obtain ⟨rfl, _, g2⟩ := hr
        have g3 : ∀ k, k ≠ 74 → M2 k = M k := fun k hk => (g2 k hk).trans (g k hk)
        rw [cI_neg _ (hl _ _ _ _)]
        have okt := ok.mpr ⟨q, q2⟩
        refine ⟨fun w => skip (fun w3 => ?_) M2 g3, fun w => ?_⟩
        · have := (cI_le _ (hf p) _ fl.1).mp w
          omega
        · have lt : (plV s l hb n c m t p).1 < 2 - pvN s l hb n (1 - c) t (m ||| 2 ^ p) := by
            refine Nat.lt_of_not_le (fun w3 => w ((cI_le _ (hf p) _ fl.1).mpr w3))
          have := ihp M2 g3
          rw [Fp, if_pos ⟨okt, lt⟩] at this
          exact this
end PC
