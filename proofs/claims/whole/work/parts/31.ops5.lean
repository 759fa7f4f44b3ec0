/-! feed, check: the tape -/
def shI : Nat → Int32
  | 0 => 24
  | i + 1 => shI i + (-8)
theorem shI_n : ∀ i, i < 4 → shI i = nI (24 - 8 * i) := by decide
theorem shI_4 : shI 4 < 0 := by decide
/-- byte i of an int, the highest first -/
def byt (x : Int32) (i : Nat) : Nat := ix ((x >>> (nI (24 - 8 * i) &&& 31)) &&& 255)
theorem byt_eq (x : Int32) (i : Nat) : (x >>> (nI (24 - 8 * i) &&& 31)) &&& 255 = nI (byt x i) ∧ byt x i < 256 := by
  obtain ⟨j, hj, e⟩ := pk_andE (x >>> (nI (24 - 8 * i) &&& 31)) (m := 255) 8 (by decide)
  rw [byt, e, ix_nI (by omega)]
  exact ⟨rfl, hj⟩
/-- a word behind the tape -/
def app (tp : Nat → Nat) (t : Nat) (x : Int32) (n : Nat) : Nat → Nat := fun j => if t ≤ j ∧ j < t + n then byt x (j - t) else tp j
theorem app_old {tp : Nat → Nat} {t n j : Nat} {x : Int32} (h : j < t) : app tp t x n j = tp j := if_neg (by omega)
def TCp (M : Mem) (t : Nat) (tp : Nat → Nat) : Prop := M 34 1 = nI t ∧ ∀ j, j < t → M 35 j = nI (tp j)
def TMp (M : Mem) (t : Nat) (tp : Nat → Nat) : Prop := M 77 10 = nI t ∧ ∀ j, j < t → M 83 j &&& 255 = nI (tp j)
theorem c_addWord {d t : Nat} {M : Mem} {tp : Nat → Nat} (h : TCp M t tp) (ht : t + 4 ≤ 200) (x : Int32) {P : Mem → Prop} (hP : ∀ M', TCp M' (t + 4) (app tp t x 4) → Fr 34 [35] [1] M M' → P M') : AMv d iX7_addWord [.ref 34, .int x] M P := by
  refine eX7_addWord M _ (bX7_addWord_0 M _ ?_)
  refine up_loop (P := fun i => ∀ M', TCp M' (t + i) (app tp t x i) → Fr 34 [35] [1] M M' → AX7_addWord d (fun r M' => r = none ∧ P M') 3 [lR 34, lI x, lI (shI i)] [] M') 4 0 (by omega) ?_ ?_ M ⟨h.1, fun j hj => by rw [app_old (show j < t from hj)]; exact h.2 j hj⟩ Fr.rf
  · intro M' h1 h2
    exact bX7_addWord_3 M' _ _ ⟨fun _ => ⟨rfl, hP M' h1 h2⟩, fun z => absurd shI_4 z⟩
  · intro i _ hi ih M' h1 h2
    refine bX7_addWord_3 M' _ _ ?_
    rw [shI_n i hi]
    refine ⟨fun z => absurd z (nI_pos (by omega)), fun _ => ?_⟩
    rw [h1.1]
    refine bq_le 200 _ rfl rfl (by omega) (by omega) (fun z => by omega) (fun _ => ⟨vp_in_nI (by omega) (by decide), ?_⟩)
    rw [(byt_eq x i).1, ix_nI (by omega), nI_1, ← shI_n i hi]
    refine ih _ ⟨wr_same _ _ _ _, fun j hj => ?_⟩ ((h2.w 35 _ _ (by decide) (by decide)).wo 1 _ (by decide))
    rw [wr_row (by decide)]
    by_cases z : j = t + i
    · subst z
      rw [wr_same, app, if_pos ⟨by omega, by omega⟩, show t + i - t = i by omega]
    · rw [wr_el z, h1.2 j (by omega)]
      congr 1
      rw [app, app]
      by_cases q : t ≤ j
      · rw [if_pos ⟨q, by omega⟩, if_pos ⟨q, by omega⟩]
      · rw [if_neg (by omega), if_neg (by omega)]
def kI : Nat → Int32
  | 0 => 3
  | i + 1 => kI i + (-1)
theorem kI_n : ∀ i, i < 4 → 8 * kI i = nI (24 - 8 * i) ∧ ¬ kI i < 0 := by decide
theorem kI_4 : kI 4 < 0 := by decide
theorem c_types {d t : Nat} {M : Mem} {tp : Nat → Nat} (h : TMp M t tp) (ht : t + 4 ≤ 200) (x : Int32) {P : Mem → Prop} (hP : ∀ M', TMp M' (t + 4) (app tp t x 4) → Fr 77 [83] [10] M M' → P M') : AMv d iX10_types [.ref 77, .int x] M P := by
  refine eX10_types M _ (bX10_types_0 M _ ?_)
  refine up_loop (P := fun i => ∀ M', TMp M' (t + i) (app tp t x i) → Fr 77 [83] [10] M M' → AX10_types d (fun r M' => r = none ∧ P M') 2 [lR 77, lI x, lI (kI i)] [] M') 4 0 (by omega) ?_ ?_ M ⟨h.1, fun j hj => by rw [app_old (show j < t from hj)]; exact h.2 j hj⟩ Fr.rf
  · intro M' h1 h2
    exact bX10_types_2 M' _ _ ⟨fun _ => ⟨rfl, hP M' h1 h2⟩, fun z => absurd kI_4 z⟩
  · intro i _ hi ih M' h1 h2
    refine bX10_types_2 M' _ _ ?_
    rw [h1.1]
    refine ⟨fun z => absurd z (kI_n i hi).2, fun _ => ⟨vp_in_nI (by omega) (by decide), ?_⟩⟩
    rw [(kI_n i hi).1, ix_nI (by omega), nI_1, pk_vb]
    refine ih _ ⟨wr_same _ _ _ _, fun j hj => ?_⟩ ((h2.w 83 _ _ (by decide) (by decide)).wo 10 _ (by decide))
    rw [wr_row (by decide)]
    by_cases z : j = t + i
    · subst z
      rw [wr_same, app, if_pos ⟨by omega, by omega⟩, show t + i - t = i by omega, bp_b, (byt_eq x i).1]
    · rw [wr_el z, h1.2 j (by omega)]
      congr 1
      rw [app, app]
      by_cases q : t ≤ j
      · rw [if_pos ⟨q, by omega⟩, if_pos ⟨q, by omega⟩]
      · rw [if_neg (by omega), if_neg (by omega)]
theorem app_256 {tp : Nat → Nat} {t : Nat} {x : Int32} (h : ∀ j, j < t → tp j < 256) : ∀ j, j < t + 4 → app tp t x 4 j < 256 := by
  intro j hj
  rw [app]; split
  · exact (byt_eq x _).2
  · exact h j (by omega)
/-- the tape's rows of the state -/
def setT (v : VD) (t : Nat) (tp : Nat → Nat) : VD := fun r j => if r = 1 then tp j else if r = 0 ∧ j = 1 then t else v r j
theorem RC.t4 {M M' : Mem} {S : SS} {t : Nat} {tp : Nat → Nat} (h : RC M S) (h1 : TCp M' t tp) (hf : ∀ k, k ≠ 34 → k ≠ 35 → k < 77 → M' k = M k) : RC M' (setS S 4 (setT (S 4) t tp)) := by
  obtain ⟨q1, q2, q3, q4, q5, q6, q7⟩ := h
  refine ⟨q1.cg (hf _ (by omega) (by omega) (by omega)) (fun r _ _ => hf _ (by omega) (by omega) (by omega)), ⟨by rw [hf 0 (by omega) (by omega) (by omega)]; exact q2.1, fun q => (q2.2 q).cg (hf _ (by omega) (by omega) (by omega)) (fun r _ _ => hf _ (by omega) (by omega) (by omega))⟩, h1, ?_, q5.cg (fun r _ => hf _ (by omega) (by omega) (by omega)), q6.cg (fun r _ => hf _ (by omega) (by omega) (by omega)), q7.cg (hf _ (by omega) (by omega) (by omega)) (hf _ (by omega) (by omega) (by omega)) (hf _ (by omega) (by omega) (by omega))⟩
  exact ⟨by rw [hf 0 (by omega) (by omega) (by omega)]; exact q4.1, fun j hj => by rw [hf 76 (by omega) (by omega) (by omega)]; exact q4.2 j hj⟩
theorem RM.t4 {M M' : Mem} {S : SS} {t : Nat} {tp : Nat → Nat} (h : RM M S) (h1 : TMp M' t tp) (g : Fr 77 [83] [10] M M') : RM M' (setS S 4 (setT (S 4) t tp)) := by
  obtain ⟨q1, q2, q3, q4, q5, q6⟩ := h
  exact ⟨VM.fr q1 g rfl rfl, KM.fr q2 g rfl rfl, h1, GM.fr q4 g rfl rfl, LM.fr q5 g rfl, LM.fr q6 g rfl⟩
theorem WF.t4 {S : SS} {t : Nat} {tp : Nat → Nat} (h : WF S) (ht : t ≤ 200) (h1 : ∀ j, j < t → tp j < 256) : WF (setS S 4 (setT (S 4) t tp)) := by
  obtain ⟨w1, w2, w3, w4, w5, w6, w7, w8, w9⟩ := h
  exact ⟨w1, w2, w3, ht, h1, w6, w7, w8, w9⟩
theorem op_feed {S : SS} (hW : WF S) (x1 x2 x3 x4 x5 : Int32) : Op S iX9_feed iX10_feed [.int x1, .int x2, .int x3, .int x4, .int x5] := by
  have ht := hW.2.2.2.1
  by_cases hc : S 4 0 1 ≤ 180
  · refine ⟨nI (S 4 0 1 + 20), setS S 4 (setT (S 4) (S 4 0 1 + 20) (app (app (app (app (app (S 4 1) (S 4 0 1) x1 4) (S 4 0 1 + 4) x2 4) (S 4 0 1 + 8) x3 4) (S 4 0 1 + 12) x4 4) (S 4 0 1 + 16) x5 4)), hW.t4 (by omega) ?_, fun M h => ?_, fun M h => ?_⟩
    · exact app_256 (t := S 4 0 1 + 16) (app_256 (t := S 4 0 1 + 12) (app_256 (t := S 4 0 1 + 8) (app_256 (t := S 4 0 1 + 4) (app_256 hW.2.2.2.2.1))))
    · refine eX9_feed M _ _ _ _ _ (bX9_feed_0 M _ _ _ _ _ ?_)
      rw [h.2.2.1.1]
      refine bq_le _ 180 rfl rfl (by omega) (by omega) (fun _ => ?_) (fun z => by omega)
      refine c_addWord (t := S 4 0 1) (tp := S 4 1) h.2.2.1 (by omega) x1 (fun M1 a1 b1 => c_addWord (t := S 4 0 1 + 4) a1 (by omega) x2 (fun M2 a2 b2 => c_addWord (t := S 4 0 1 + 8) a2 (by omega) x3 (fun M3 a3 b3 => c_addWord (t := S 4 0 1 + 12) a3 (by omega) x4 (fun M4 a4 b4 => c_addWord (t := S 4 0 1 + 16) a4 (by omega) x5 (fun M5 a5 b5 => ?_)))))
      have g := (((b1.tr b2).tr b3).tr b4).tr b5
      exact ⟨_, rfl, a5.1, g.high (by omega) (by decide), h.t4 a5 (fun k q1 q2 _ => g.1 k (by simp; omega) q1)⟩
    · refine eX10_feed M _ _ _ _ _ (bX10_feed_0 M _ _ _ _ _ ?_)
      rw [h.2.2.1.1, show (20 : Int32) = nI 20 from rfl, nI_add]
      refine bq_le _ 200 rfl rfl (by omega) (by omega) (fun _ => ?_) (fun z => by omega)
      refine c_types (t := S 4 0 1) (tp := S 4 1) h.2.2.1 (by omega) x1 (fun M1 a1 b1 => c_types (t := S 4 0 1 + 4) a1 (by omega) x2 (fun M2 a2 b2 => c_types (t := S 4 0 1 + 8) a2 (by omega) x3 (fun M3 a3 b3 => c_types (t := S 4 0 1 + 12) a3 (by omega) x4 (fun M4 a4 b4 => c_types (t := S 4 0 1 + 16) a4 (by omega) x5 (fun M5 a5 b5 => ?_)))))
      have g := (((b1.tr b2).tr b3).tr b4).tr b5
      exact ⟨_, rfl, a5.1, g.low (by decide), h.t4 a5 g⟩
  · refine ⟨-1, S, hW, fun M h => ?_, fun M h => ?_⟩
    · refine eX9_feed M _ _ _ _ _ (bX9_feed_0 M _ _ _ _ _ ?_)
      rw [h.2.2.1.1]
      exact bq_le _ 180 rfl rfl (by omega) (by omega) (fun z => absurd z hc) (fun z => ⟨_, rfl, rfl, FrM.rf M, h⟩)
    · refine eX10_feed M _ _ _ _ _ (bX10_feed_0 M _ _ _ _ _ ?_)
      rw [h.2.2.1.1, show (20 : Int32) = nI 20 from rfl, nI_add]
      exact bq_le _ 200 rfl rfl (by omega) (by omega) (fun z => by omega) (fun z => ⟨_, rfl, rfl, FrC.rf M, h⟩)
/-- number p of the tape: its first i bytes -/
def wdTo (tp : Nat → Nat) (p : Nat) : Nat → Int32
  | 0 => 0
  | i + 1 => (wdTo tp p i <<< ((8 : Int32) &&& 31)) ||| nI (tp (4 * p + i))
theorem c_wordAt {d t p : Nat} {M : Mem} {tp : Nat → Nat} (h : ∀ j, j < t → M 35 j = nI (tp j)) (hp : 4 * p + 4 ≤ t) (ht : t ≤ 200) : AMp d iX7_wordAt [.ref 34, .int (nI p)] M (wdTo tp p 4) := by
  refine eX7_wordAt M _ (bX7_wordAt_0 M _ ?_)
  rw [show nI p * 4 = nI (4 * p) by rw [show (4 : Int32) = nI 4 from rfl, pk_mul, Nat.mul_comm]]
  refine up_loop (P := fun i => AX7_wordAt d (fun r M' => some (wdTo tp p 4) = r ∧ M = M') 9 [lR 34, none, lI (wdTo tp p i), lI (nI (4 * p)), lI (nI (4 * p + i))] [] M) 4 0 (by omega) ?_ ?_
  · refine bX7_wordAt_9 M _ _ _ ⟨fun z => absurd z (nI_pos (by omega)), fun _ => ?_⟩
    rw [show (4 : Int32) = nI 4 from rfl, nI_add]
    exact bq_le _ _ rfl rfl (by omega) (by omega) (fun _ => ⟨rfl, rfl⟩) (fun z => by omega)
  · intro i _ hi ih
    refine bX7_wordAt_9 M _ _ _ ⟨fun z => absurd z (nI_pos (by omega)), fun _ => ?_⟩
    rw [show (4 : Int32) = nI 4 from rfl, nI_add]
    refine bq_le _ _ rfl rfl (by omega) (by omega) (fun z => by omega) (fun _ => bq_le 200 _ rfl rfl (by omega) (by omega) (fun z => by omega) (fun _ => ⟨vp_in_nI (by omega) (by decide), ?_⟩))
    rw [ix_nI (by omega), h _ (by omega), nI_1]
    exact ih
theorem c_tapeNumber {d t p : Nat} {M : Mem} {tp : Nat → Nat} (h : ∀ j, j < t → M 83 j &&& 255 = nI (tp j)) (hp : 4 * p + 4 ≤ t) (ht : t ≤ 200) : AMp d iX10_tapeNumber [.ref 77, .int (nI p)] M (wdTo tp p 4) := by
  have e4 : (4 : Int32) * nI p = nI (4 * p) := by rw [show (4 : Int32) = nI 4 from rfl, pk_mul]
  refine eX10_tapeNumber M _ (bX10_tapeNumber_0 M _ ?_)
  rw [e4]
  refine up_loop (P := fun i => AX10_tapeNumber d (fun r M' => some (wdTo tp p 4) = r ∧ M = M') 6 [lR 77, lI (nI p), lI (wdTo tp p i), lI (nI (4 * p + i))] [] M) 4 0 (by omega) ?_ ?_
  · refine bX10_tapeNumber_6 M _ _ _ ?_
    rw [e4, show (4 : Int32) = nI 4 from rfl, nI_add]
    exact bq_le _ _ rfl rfl (by omega) (by omega) (fun _ => ⟨rfl, rfl⟩) (fun z => by omega)
  · intro i _ hi ih
    refine bX10_tapeNumber_6 M _ _ _ ?_
    rw [e4, show (4 : Int32) = nI 4 from rfl, nI_add]
    refine bq_le _ _ rfl rfl (by omega) (by omega) (fun z => by omega) (fun _ => ⟨vp_in_nI (by omega) (by decide), ?_⟩)
    rw [ix_nI (by omega), h _ (by omega), nI_1]
    exact ih
/-- the first number from p on that is not so -/
def chk (s : VD) (tp : Nat → Nat) (n : Nat) : Nat → Nat → Int32
  | 0, _ => -1
  | f + 1, p => if n ≤ p then -1 else if s 0 0 ≤ p then nI p else if wdTo tp p 4 = nI (tallS s p) then chk s tp n f (p + 1) else nI p
theorem op_check {S : SS} (hW : WF S) (x1 : Int32) : Op S iX9_check iX10_check [.int x1] := by
  have ht := hW.2.2.2.1
  have hs := hW.1
  have hn := hs.1
  by_cases hc : ¬ inV x1 0 16 = 0 ∧ 4 * ix x1 ≤ S 4 0 1
  · obtain ⟨c1, c2⟩ := hc
    obtain ⟨b1, b2, b3⟩ := in_nI 0 16 (by omega) (by omega) c1
    generalize ix x1 = n at b1 b2 b3 c2
    subst b3
    refine ⟨chk (S 0) (S 4 1) n (n + 1) 0, setS S 4 (setT (S 4) 0 (S 4 1)), hW.t4 (by omega) (fun j hj => by omega), fun M h => ?_, fun M h => ?_⟩
    · have kn : ∀ M' : Mem, (∀ k, k ≠ 34 → k < 77 → M' k = M k) → M' 1 7 = nI (S 0 0 0) := fun M' g => by rw [g 1 (by omega) (by omega)]; exact h.1.1 0 (by decide)
      refine eX9_check M _ (bX9_check_0 M _ ⟨fun z => absurd z c1, fun _ => ?_⟩)
      rw [h.2.2.1.1, show nI n * 4 = nI (4 * n) by rw [show (4 : Int32) = nI 4 from rfl, pk_mul, Nat.mul_comm]]
      refine bq_le _ _ rfl rfl (by omega) (by omega) (fun _ => ?_) (fun z => by omega)
      have g : Fr 34 [] [1] M (wr M 34 1 0) := Fr.rf.wo 1 _ (by decide)
      have g2 : ∀ k, k ≠ 34 → k < 77 → wr M 34 1 0 k = M k := fun k a _ => wr_row a
      have R2 : RC (wr M 34 1 0) (setS S 4 (setT (S 4) 0 (S 4 1))) := h.t4 ⟨wr_same _ _ _ _, fun j hj => by omega⟩ (fun k a _ b => g2 k a b)
      have hb : ∀ j, j < S 4 0 1 → wr M 34 1 0 35 j = nI (S 4 1 j) := fun j hj => by rw [wr_row (by decide)]; exact h.2.2.1.2 j hj
      have fr : FrM M (wr M 34 1 0) := (FrM.rf M).wr _ (by omega)
      have key : ∀ f p, n ≤ p + f → AX9_check 60 (fun r M' => ∃ x, r = some x ∧ x = chk (S 0) (S 4 1) n (f + 1) p ∧ FrM M M' ∧ RC M' (setS S 4 (setT (S 4) 0 (S 4 1)))) 36 [lR 0, lI (nI n), lI (nI p)] [] (wr M 34 1 0) ∨ 17 < p := by
        intro f
        induction f with
        | zero =>
          intro p hp
          by_cases h17 : 17 < p
          · exact Or.inr h17
          left
          exact bX9_check_36 _ _ _ (bq_le _ _ rfl rfl (by omega) (by omega) (fun _ => ⟨_, rfl, by rw [chk, if_pos (by omega)], fr, R2⟩) (fun z => by omega))
        | succ f ih =>
          intro p hp
          by_cases h17 : 17 < p
          · exact Or.inr h17
          left
          refine bX9_check_36 _ _ _ (bq_le _ _ rfl rfl (by omega) (by omega) (fun z => ⟨_, rfl, by rw [chk, if_pos z], fr, R2⟩) (fun z => ?_))
          rw [kn _ g2]
          refine ⟨fun q => ⟨_, rfl, ?_, fr, R2⟩, fun q => ?_⟩
          · have : S 0 0 0 ≤ p := by
              rcases Nat.lt_or_ge p (S 0 0 0) with w | w
              · exact absurd ((isPV_nI (by omega)).mpr ⟨p, w, rfl⟩) (isPV_0.mp q)
              · exact w
            rw [chk, if_neg (by omega), if_pos this]
          · have hq : p < S 0 0 0 := by have := (isP_nI (by omega) q).1; rwa [ix_nI (by omega)] at this
            refine (c_wordAt (t := S 4 0 1) hb (by omega) ht).i ((c_heightOf isV_1 hs (R2.1) (p := p) (by omega)).i ⟨fun e => ?_, fun e => ⟨_, rfl, ?_, fr, R2⟩⟩)
            · have e2 : chk (S 0) (S 4 1) n (f + 1 + 1) p = chk (S 0) (S 4 1) n (f + 1) (p + 1) := by rw [chk, if_neg (by omega), if_neg (by omega), if_pos e]
              rw [e2, nI_1]
              rcases ih (p + 1) (by omega) with w | w
              · exact w
              · omega
            · rw [chk, if_neg (by omega), if_neg (by omega), if_neg e]
      rcases key n 0 (by omega) with w | w
      · exact w
      · omega
    · refine eX10_check M _ (bX10_check_0 M _ ⟨fun z => absurd z c1, fun _ => ?_⟩)
      rw [h.2.2.1.1, show (4 : Int32) = nI 4 from rfl, pk_div (by omega) (by omega) (by omega)]
      refine bq_le _ _ rfl rfl (by omega) (by omega) (fun _ => ?_) (fun z => by omega)
      have g : Fr 77 [83] [10] M (wr M 77 10 0) := Fr.rf.wo 10 _ (by decide)
      have R2 : RM (wr M 77 10 0) (setS S 4 (setT (S 4) 0 (S 4 1))) := h.t4 ⟨wr_same _ _ _ _, fun j hj => by omega⟩ g
      have hb : ∀ j, j < S 4 0 1 → wr M 77 10 0 83 j &&& 255 = nI (S 4 1 j) := fun j hj => by rw [wr_row (by decide)]; exact h.2.2.1.2 j hj
      have kn : wr M 77 10 0 77 0 = nI (S 0 0 0) := R2.1.1 0 (by decide)
      have fr : FrC M (wr M 77 10 0) := (FrC.rf M).wr _ (by omega)
      have key : ∀ f p, n ≤ p + f → AX10_check 60 (fun r M' => ∃ x, r = some x ∧ x = chk (S 0) (S 4 1) n (f + 1) p ∧ FrC M M' ∧ RM M' (setS S 4 (setT (S 4) 0 (S 4 1)))) 30 [lR 77, lI (nI n), lI (nI p)] [] (wr M 77 10 0) ∨ S 0 0 0 < p ∨ 17 < p := by
        intro f
        induction f with
        | zero =>
          intro p hp
          by_cases h17 : S 0 0 0 < p ∨ 17 < p
          · exact Or.inr h17
          left
          exact bX10_check_30 _ _ _ (bq_le _ _ rfl rfl (by omega) (by omega) (fun _ => ⟨_, rfl, by rw [chk, if_pos (by omega)], fr, R2⟩) (fun z => by omega))
        | succ f ih =>
          intro p hp
          by_cases h17 : S 0 0 0 < p ∨ 17 < p
          · exact Or.inr h17
          left
          refine bX10_check_30 _ _ _ (bq_le _ _ rfl rfl (by omega) (by omega) (fun z => ⟨_, rfl, by rw [chk, if_pos z], fr, R2⟩) (fun z => ?_))
          rw [kn]
          refine bq_eq _ _ rfl rfl (by omega) (by omega) (fun q => ⟨_, rfl, ?_, fr, R2⟩) (fun q => ?_)
          · rw [chk, if_neg (by omega), if_pos (by omega)]
          · refine (c_tapeNumber (t := S 4 0 1) hb (by omega) ht).i ((c_tallOf hs (R2.1) (p := p) (by omega)).i ⟨fun e => ?_, fun e => ⟨_, rfl, ?_, fr, R2⟩⟩)
            · have e2 : chk (S 0) (S 4 1) n (f + 1 + 1) p = chk (S 0) (S 4 1) n (f + 1) (p + 1) := by rw [chk, if_neg (by omega), if_neg (by omega), if_pos e]
              rw [e2, nI_1]
              rcases ih (p + 1) (by omega) with w | w
              · exact w
              · omega
            · rw [chk, if_neg (by omega), if_neg (by omega), if_neg e]
      rcases key n 0 (by omega) with w | w
      · exact w
      · omega
  · refine ⟨-2, S, hW, fun M h => ?_, fun M h => ?_⟩
    · refine eX9_check M _ (bX9_check_0 M _ ⟨fun z => ⟨_, rfl, rfl, FrM.rf M, h⟩, fun c1 => ⟨fun z => absurd ⟨c1, ?_⟩ hc, fun z => ⟨_, rfl, rfl, FrM.rf M, h⟩⟩⟩)
      obtain ⟨b1, b2, b3⟩ := in_nI 0 16 (by omega) (by omega) c1
      generalize ix x1 = n at b1 b2 b3
      subst b3
      rw [h.2.2.1.1, show (4 : Int32) = nI 4 from rfl, pk_mul, nI_leI (by omega) (by omega)] at z
      omega
    · refine eX10_check M _ (bX10_check_0 M _ ⟨fun z => ⟨_, rfl, rfl, FrC.rf M, h⟩, fun c1 => ⟨fun z => absurd ⟨c1, ?_⟩ hc, fun z => ⟨_, rfl, rfl, FrC.rf M, h⟩⟩⟩)
      obtain ⟨b1, b2, b3⟩ := in_nI 0 16 (by omega) (by omega) c1
      generalize ix x1 = n at b1 b2 b3
      subst b3
      rw [h.2.2.1.1, show (4 : Int32) = nI 4 from rfl, pk_div (by omega) (by omega) (by omega), nI_leI (by omega) (by omega)] at z
      omega
