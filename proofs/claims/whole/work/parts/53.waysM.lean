/-! THE MODEL LAYS WAYS -/
def WT (M : Mem) (s : VD) (wt : Nat → Nat) : Prop := ∀ a, a < s 0 0 → M 105 a = nI (wt a)
def smW (f : Nat → Nat) : Nat → Nat
  | 0 => 0
  | n + 1 => smW f n + f n
theorem smW_cg {f g : Nat → Nat} : ∀ n, (∀ a, a < n → f a = g a) → smW f n = smW g n
  | 0, _ => rfl
  | n + 1, h => by rw [smW, smW, smW_cg n (fun a ha => h a (by omega)), h n (by omega)]
theorem smW_lt {f : Nat → Nat} {i x : Nat} (hx : x < f i) : ∀ n, i < n → smW (fun a => if a = i then x else f a) n < smW f n
  | 0, h => by omega
  | n + 1, h => by
    rw [smW, smW]
    by_cases e : n = i
    · subst e
      rw [smW_cg (f := fun a => if a = n then x else f a) (g := f) n (fun a ha => if_neg (by omega))]
      show smW f n + (if n = n then x else f n) < _
      rw [if_pos rfl]
      omega
    · have := smW_lt hx n (by omega)
      show _ + (if n = i then x else f n) < _
      rw [if_neg e]
      omega
theorem wy_mono {s l : VD} {T : Nat} (hs : WFV s) {W wt : Nat → Nat} (h : ∀ b, b < s 0 0 → W b ≤ wt b) (hb : ∀ b, wt b ≤ 1000000000) (a b : Nat) (hle : ∀ b, W b = 1000000000 ∨ W b ≤ 1023000) : wyN s l T W a b ≤ wyN s l T wt a b := by
  rcases wy_le (s := s) (l := l) (T := T) wt a b with q | ⟨q1, q2, q3⟩
  · rw [q]
    rcases wy_le (s := s) (l := l) (T := T) W a b with w | ⟨w1, w2, w3⟩
    · omega
    · have := ak_le (T := T) hs w1
      have := hle b
      omega
  · have := h b (EB_lt hs q1).2
    rw [q3, wyN, if_pos ⟨q1, by omega⟩]
    omega
section WM2
variable {d : Nat} {s l : VD} {M : Mem} {T : Nat}
theorem c_wayBy (hs : WFV s) (hA : ASK M s l) {wt : Nat → Nat} (hw : WT M s wt) (hle : ∀ a, wt a ≤ 1000000000) (hT : T < 2 ^ 31) {a b : Nat} (ha : a < s 0 0) (hb : b < s 0 0) : AMp (d + 2) iX10_wayBy [.ref 77, .int (nI a), .int (nI b), .int (nI T)] M (nI (wyN s l T wt a b)) := by
  have hn := hs.1
  have vb : vp_in (nI b) 16 := vp_in_nI (by omega) (by decide)
  have lb := hle b
  refine eX10_wayBy M _ _ _ (bX10_wayBy_0 M _ _ _ ((c_isStep hs hA ha hb).i ?_))
  rw [ix_nI (by omega), hw b hb]
  cases hE : EB s l a b with
  | false =>
    refine ⟨fun _ => ⟨?_, rfl⟩, fun z => absurd rfl z⟩
    rw [wyN, if_neg (fun w => by rw [hE] at w; exact absurd w.1 (by decide))]
    rfl
  | true =>
    refine ⟨fun z => absurd z (by decide), fun _ => ⟨vb, (bq_lt _ 1000000000 rfl rfl (by omega) (by omega) (fun q => ?_) (fun q => ⟨?_, rfl⟩))⟩⟩
    · have ak : ∀ x, x = nI (akN s l T a b) → (some (nI (wyN s l T wt a b)) = some (32 * x + 1 + nI (wt b)) ∧ M = M) := by
        intro x hx
        rw [hx, show (32 : Int32) = nI 32 from rfl, pk_mul, nI_1, nI_add, wyN, if_pos ⟨hE, q⟩]
        exact ⟨rfl, rfl⟩
      refine eX10_askedBy M _ _ _ (bX10_askedBy_0 M _ _ _ (bq_has _ b rfl rfl hT (by omega) (fun q2 => ?_) (fun q2 => ⟨_, rfl, vb, ?_⟩)))
      · obtain ⟨v, e⟩ := ask_at hs hA ha hb
        refine ⟨v, _, rfl, vb, ?_⟩
        rw [hw b hb]
        exact ak _ (by rw [e, stN, if_pos hE, akN, q2]; rfl)
      · rw [hw b hb]
        exact ak _ (by rw [akN, if_pos q2]; rfl)
    · rw [wyN, if_neg (fun w => by omega)]
      rfl
theorem c_laysWays (hs : WFV s) (h : VM M s) (hA : ASK M s l) (hT : T < 2 ^ 31) (ht : ¬ topS s = 31) {W : Nat → Nat} (hW : ∀ a, W a = eqW s l T W a) : AMv (d + 3) iX10_laysWays [.ref 77, .int (nI T)] M (fun M' => WT M' s W ∧ ∀ k, k ≠ 105 → M' k = M k) := by
  have hn := hs.1
  have tp : topS s < s 0 0 := by
    rcases topS_or s with q | q
    · exact absurd q ht
    · exact q.1
  have Wl : ∀ a, W a = 1000000000 ∨ W a ≤ 1023000 := fun a => by have := W_sml hs hW a; omega
  have kn : ∀ M' : Mem, (∀ k, k ≠ 105 → M' k = M k) → M' 77 0 = nI (s 0 0) := fun M' g => by rw [g 77 (by omega)]; exact h.1 0 (by decide)
  have kA : ∀ M' : Mem, (∀ k, k ≠ 105 → M' k = M k) → ASK M' s l := fun M' g a b q1 q2 => by rw [g 98 (by omega)]; exact hA a b q1 q2
  refine eX10_laysWays M _ (bX10_laysWays_0 M _ ((c_topOf hs h).i ?_))
  rw [tvI_n ht]
  -- the loops
  have key : ∀ f wt M', smW wt (s 0 0) ≤ f → WT M' s wt → (∀ a, wt a ≤ 1000000000) → (∀ a, a < s 0 0 → W a ≤ wt a) → wt (topS s) = 0 → (∀ k, k ≠ 105 → M' k = M k) → AX10_laysWays (d + 3) (fun r M' => r = none ∧ WT M' s W ∧ ∀ k, k ≠ 105 → M' k = M k) 41 [lR 77, lI (nI T), lI (nI (topS s)), lI 1, none, none] [] M' := by
    intro f
    induction f with
    | zero =>
      intro wt M' hf i1 i2 i3 i4 g
      -- nothing left to fall: all are 0
      have z : ∀ n, smW wt n = 0 → ∀ a, a < n → wt a = 0 := by
        intro n
        induction n with
        | zero => intro _ a ha; omega
        | succ n ih =>
          intro e a ha
          rw [smW] at e
          by_cases q : a = n
          · rw [q]; omega
          · exact ih (by omega) a (by omega)
      have z0 := z (s 0 0) (by omega)
      refine bX10_laysWays_41 M' _ _ _ ⟨fun q => absurd q (by decide), fun _ => ?_⟩
      have stp : ∀ a b, wyN s l T wt a b ≥ 1 := fun a b => by
        rcases wy_le (s := s) (l := l) (T := T) wt a b with q | ⟨_, _, q⟩ <;> omega
      refine up_loop (P := fun a => AX10_laysWays (d + 3) (fun r M' => r = none ∧ WT M' s W ∧ ∀ k, k ≠ 105 → M' k = M k) 50 [lR 77, lI (nI T), lI (nI (topS s)), lI 0, lI (nI a), none] [] M') (s 0 0) 0 (by omega) ?_ ?_
      · refine bX10_laysWays_50 M' _ _ _ _ ?_
        rw [kn M' g]
        refine bq_le _ _ rfl rfl (by omega) (by omega) (fun _ => bX10_laysWays_41 M' _ _ _ ⟨fun _ => ⟨rfl, fun a ha => ?_, g⟩, fun q => absurd rfl q⟩) (fun q => by omega)
        rw [i1 a ha]
        have := i3 a ha
        have := z0 a ha
        rw [show wt a = W a by omega]
      · intro a _ ha ih
        refine bX10_laysWays_50 M' _ _ _ _ ?_
        rw [kn M' g]
        refine bq_le _ _ rfl rfl (by omega) (by omega) (fun q => by omega) (fun _ => ?_)
        refine up_loop (P := fun b => AX10_laysWays (d + 3) (fun r M' => r = none ∧ WT M' s W ∧ ∀ k, k ≠ 105 → M' k = M k) 62 [lR 77, lI (nI T), lI (nI (topS s)), lI 0, lI (nI a), lI (nI b)] [] M') (s 0 0) 0 (by omega) ?_ ?_
        · refine bX10_laysWays_62 M' _ _ _ _ _ ?_
          rw [kn M' g, nI_1 a]
          exact bq_le _ _ rfl rfl (by omega) (by omega) (fun _ => ih) (fun q => by omega)
        · intro b _ hb ih2
          have va : vp_in (nI a) 16 := vp_in_nI (by omega) (by decide)
          have w9 : wyN s l T wt a b < 2 ^ 31 := by
            rcases wy_le (s := s) (l := l) (T := T) wt a b with q | ⟨q1, q2, q⟩
            · omega
            · have := ak_le (T := T) hs q1; omega
          refine bX10_laysWays_62 M' _ _ _ _ _ ?_
          rw [kn M' g, nI_1 b]
          refine bq_le _ _ rfl rfl (by omega) (by omega) (fun q => by omega) (fun _ => ⟨fun _ => ih2, fun _ => (c_wayBy hs (kA M' g) i1 i2 hT ha hb).i ⟨va, ?_⟩⟩)
          rw [ix_nI (by omega), i1 a ha]
          have := stp a b
          have := z0 a ha
          exact bq_lt _ _ rfl rfl w9 (by omega) (fun q => by omega) (fun _ => ih2)
    | succ f ihf =>
      intro wt M' hf i1 i2 i3 i4 g
      refine bX10_laysWays_41 M' _ _ _ ⟨fun q => absurd q (by decide), fun _ => ?_⟩
      refine up_loop (P := fun a => ∀ wt' M' (m : Int32), WT M' s wt' → (∀ a, wt' a ≤ 1000000000) → (∀ a, a < s 0 0 → W a ≤ wt' a) → wt' (topS s) = 0 → (∀ k, k ≠ 105 → M' k = M k) → ((m = 0 ∧ wt' = wt ∧ ∀ x y, x < a → y < s 0 0 → ¬ x = topS s → wt x ≤ wyN s l T wt x y) ∨ (m = 1 ∧ smW wt' (s 0 0) < smW wt (s 0 0))) → AX10_laysWays (d + 3) (fun r M' => r = none ∧ WT M' s W ∧ ∀ k, k ≠ 105 → M' k = M k) 50 [lR 77, lI (nI T), lI (nI (topS s)), lI m, lI (nI a), none] [] M') (s 0 0) 0 (by omega) ?_ ?_ wt M' 0 i1 i2 i3 i4 g (Or.inl ⟨rfl, rfl, fun x y hx => by omega⟩)
      · intro wt' M' m j1 i2 i3 i4 g hm
        refine bX10_laysWays_50 M' _ _ _ _ ?_
        rw [kn M' g]
        refine bq_le _ _ rfl rfl (by omega) (by omega) (fun _ => ?_) (fun q => by omega)
        rcases hm with ⟨rfl, rfl, hc⟩ | ⟨rfl, hlt⟩
        · refine bX10_laysWays_41 M' _ _ _ ⟨fun _ => ⟨rfl, fun a ha => ?_, g⟩, fun q => absurd rfl q⟩
          have le : ∀ k a, rk s a < k → a < s 0 0 → wt' a ≤ W a := by
            intro k
            induction k with
            | zero => intro a q; omega
            | succ k ih =>
              intro a q ha
              by_cases e : a = topS s
              · rw [e, i4]; omega
              · have eW := W_mn hW e
                rcases mn_at (s := s) (l := l) (T := T) W a 16 with h1 | ⟨b, h1, h2⟩
                · rw [eW, h1]; exact i2 a
                · rcases wy_le (s := s) (l := l) (T := T) W a b with h3 | ⟨h3, h4, h5⟩
                  · rw [eW, h2, h3]; exact i2 a
                  · have r := rk_lt hs h3
                    have hb := (EB_lt hs h3).2
                    have := ih b (by omega) hb
                    have c := hc a b ha hb e
                    rw [wyN, if_pos ⟨h3, by omega⟩] at c
                    rw [eW, h2, h5]
                    omega
          rw [j1 a ha]
          have := le 17 a (by have := rk_le s a; omega) ha
          have := i3 a ha
          rw [show wt' a = W a by omega]
        · exact ihf wt' M' (by omega) j1 i2 i3 i4 g
      · intro a _ ha ih wt' M' m i1 i2 i3 i4 g hm
        refine bX10_laysWays_50 M' _ _ _ _ ?_
        rw [kn M' g]
        refine bq_le _ _ rfl rfl (by omega) (by omega) (fun q => by omega) (fun _ => ?_)
        refine up_loop (P := fun b => ∀ wt' M' (m : Int32), WT M' s wt' → (∀ a, wt' a ≤ 1000000000) → (∀ a, a < s 0 0 → W a ≤ wt' a) → wt' (topS s) = 0 → (∀ k, k ≠ 105 → M' k = M k) → ((m = 0 ∧ wt' = wt ∧ ∀ x y, (x < a ∨ (x = a ∧ y < b)) → y < s 0 0 → ¬ x = topS s → wt x ≤ wyN s l T wt x y) ∨ (m = 1 ∧ smW wt' (s 0 0) < smW wt (s 0 0))) → AX10_laysWays (d + 3) (fun r M' => r = none ∧ WT M' s W ∧ ∀ k, k ≠ 105 → M' k = M k) 62 [lR 77, lI (nI T), lI (nI (topS s)), lI m, lI (nI a), lI (nI b)] [] M') (s 0 0) 0 (by omega) ?_ ?_ wt' M' m i1 i2 i3 i4 g (hm.imp (fun ⟨a1, a2, a3⟩ => ⟨a1, a2, fun x y hx => a3 x y (by omega)⟩) id)
        · intro wt' M' m i1 i2 i3 i4 g hm
          refine bX10_laysWays_62 M' _ _ _ _ _ ?_
          rw [kn M' g, nI_1 a]
          exact bq_le _ _ rfl rfl (by omega) (by omega) (fun _ => ih wt' M' m i1 i2 i3 i4 g (hm.imp (fun ⟨a1, a2, a3⟩ => ⟨a1, a2, fun x y hx hy => a3 x y (by omega) hy⟩) id)) (fun q => by omega)
        · intro b _ hb ih2 wt' M' m i1 i2 i3 i4 g hm
          have va : vp_in (nI a) 16 := vp_in_nI (by omega) (by decide)
          have w9 : wyN s l T wt' a b < 2 ^ 31 := by
            rcases wy_le (s := s) (l := l) (T := T) wt' a b with q | ⟨q1, q2, q⟩
            · omega
            · have := ak_le (T := T) hs q1; omega
          have la := i2 a
          have skip : (a = topS s ∨ wt' a ≤ wyN s l T wt' a b) → AX10_laysWays (d + 3) (fun r M' => r = none ∧ WT M' s W ∧ ∀ k, k ≠ 105 → M' k = M k) 62 [lR 77, lI (nI T), lI (nI (topS s)), lI m, lI (nI a), lI (nI (b + 1))] [] M' := by
            intro q
            refine ih2 wt' M' m i1 i2 i3 i4 g ?_
            rcases hm with ⟨rfl, rfl, hc⟩ | hm
            · refine Or.inl ⟨rfl, rfl, fun x y hx hy nt => ?_⟩
              by_cases e : x = a ∧ y = b
              · obtain ⟨rfl, rfl⟩ := e
                rcases q with q | q
                · exact absurd q nt
                · exact q
              · exact hc x y (by omega) hy nt
            · exact Or.inr hm
          refine bX10_laysWays_62 M' _ _ _ _ _ ?_
          rw [kn M' g, nI_1 b]
          refine bq_le _ _ rfl rfl (by omega) (by omega) (fun q => by omega) (fun _ => bq_eq _ _ rfl rfl (by omega) (by omega) (fun q => skip (Or.inl q)) (fun nt => (c_wayBy hs (kA M' g) i1 i2 hT ha hb).i ⟨va, ?_⟩))
          rw [ix_nI (by omega), i1 a ha]
          refine bq_lt _ _ rfl rfl w9 (by omega) (fun q => (c_wayBy hs (kA M' g) i1 i2 hT ha hb).i ⟨va, ?_⟩) (fun q => skip (Or.inr q))
          refine ih2 (fun x => if x = a then wyN s l T wt' a b else wt' x) _ 1 (fun x hx => ?_) (fun x => ?_) (fun x hx => ?_) ?_ (fun k hk => (wr_row hk).trans (g k hk)) (Or.inr ⟨rfl, ?_⟩)
          · show _ = nI (if x = a then wyN s l T wt' a b else wt' x)
            by_cases e : x = a
            · rw [e, if_pos rfl]; exact wr_same _ _ _ _
            · rw [if_neg e, wr_el e]; exact i1 x hx
          · show (if x = a then wyN s l T wt' a b else wt' x) ≤ _
            split
            · omega
            · exact i2 x
          · show W x ≤ (if x = a then wyN s l T wt' a b else wt' x)
            by_cases e : x = a
            · rw [if_pos e, e, W_mn hW nt]
              exact Nat.le_trans ((mn_le W a 16).2 b (by omega)) (wy_mono hs i3 i2 a b Wl)
            · rw [if_neg e]; exact i3 x hx
          · show (if topS s = a then wyN s l T wt' a b else wt' (topS s)) = 0
            rw [if_neg (fun e => nt e.symm)]; exact i4
          · have := smW_lt q (s 0 0) ha
            rcases hm with ⟨_, e, _⟩ | ⟨_, e⟩
            · rw [← e]; exact this
            · exact Nat.lt_trans this e
  refine up_loop (P := fun p => ∀ M', (∀ a, a < p → M' 105 a = nI (if a = topS s then 0 else 1000000000)) → (∀ k, k ≠ 105 → M' k = M k) → AX10_laysWays (d + 3) (fun r M' => r = none ∧ WT M' s W ∧ ∀ k, k ≠ 105 → M' k = M k) 7 [lR 77, lI (nI T), lI (nI (topS s)), lI (nI p), none, none] [] M') (s 0 0) 0 (by omega) ?_ ?_ M (fun a ha => by omega) (fun _ _ => rfl)
  · intro M' i1 g
    refine bX10_laysWays_7 M' _ _ _ ?_
    rw [kn M' g]
    refine bq_le _ _ rfl rfl (by omega) (by omega) (fun _ => key _ (fun a => if a = topS s then 0 else 1000000000) M' (Nat.le_refl _) i1 (fun a => ?_) (fun a _ => ?_) (if_pos rfl) g) (fun q => by omega)
    · show (if a = topS s then 0 else 1000000000) ≤ 1000000000
      split <;> omega
    · show W a ≤ (if a = topS s then 0 else 1000000000)
      by_cases e : a = topS s
      · rw [if_pos e, e, W_top hW]; exact Nat.le_refl _
      · rw [if_neg e]; have := Wl a; omega
  · intro p _ hp ih M' i1 g
    have vi : vp_in (nI p) 16 := vp_in_nI (by omega) (by decide)
    refine bX10_laysWays_7 M' _ _ _ ?_
    rw [kn M' g, nI_1 p, ix_nI (by omega)]
    refine bq_le _ _ rfl rfl (by omega) (by omega) (fun q => by omega) (fun _ => bq_ne _ _ rfl rfl (by omega) (by omega) (fun q => ⟨vi, ih _ (fun a ha => ?_) (fun k hk => (wr_row hk).trans (g k hk))⟩) (fun q => ⟨vi, ih _ (fun a ha => ?_) (fun k hk => (wr_row hk).trans (g k hk))⟩))
    · by_cases e : a = p
      · rw [e, if_neg q]; exact wr_same _ _ _ _
      · rw [wr_el e]; exact i1 a (by omega)
    · by_cases e : a = p
      · rw [e, if_pos q]; exact wr_same _ _ _ _
      · rw [wr_el e]; exact i1 a (by omega)
end WM2
