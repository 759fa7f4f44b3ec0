/-! AGAINST: the model's choice and what it tells -/
def avI (c w : Nat) : Int32 := if c = 0 then cI w else cI (2 - w)
def adN (X u : Nat) : Nat := if u = 0 then X else X ||| 2 ^ (u - 1)
def mi (c A B : Nat) : Nat := if c = 0 then A else B
theorem av_far : ∀ c, c ≤ 1 → ∀ w, w ≤ 2 → ¬ avI c w = 1000000000
  | 0, _, 0, _ => by decide
  | 0, _, 1, _ => by decide
  | 0, _, 2, _ => by decide
  | 1, _, 0, _ => by decide
  | 1, _, 1, _ => by decide
  | 1, _, 2, _ => by decide
  | c + 2, h, _, _ => by omega
  | _, _, w + 3, h => by omega
theorem av_le0 {a b : Nat} (ha : a ≤ 2) (hb : b ≤ 2) : avI 0 a ≤ avI 0 b ↔ a ≤ b := cI_le a ha b hb
theorem av_le1 {a b : Nat} (ha : a ≤ 2) (hb : b ≤ 2) : avI 1 a ≤ avI 1 b ↔ b ≤ a := by
  have e : ∀ w, avI 1 w = cI (2 - w) := fun w => if_neg (by decide)
  rw [e, e, cI_le _ (by omega) _ (by omega)]
  omega
section PM
variable {d t A B u : Nat} {s l : VD} {M : Mem}
theorem rem2 {t : Nat} (h : t < 2 ^ 31) : nI t - nI t / 2 * 2 = nI (t % 2) := pk_rem (d := 2) h (by omega) (by omega)
theorem c_tells (ht : t < 5) {w' : Nat} (hw' : w' ≤ 2) {P : Mem → Prop} (o : (M 107 t = 1000000000 → P (if t = 0 then wr (wr M 107 t (avI (t % 2) w')) 77 49 (M 106 0) else wr M 107 t (avI (t % 2) w'))) ∧ (∀ w, w ≤ 2 → M 107 t = avI (t % 2) w → P (if w < w' then (if t = 0 then wr (wr M 107 t (avI (t % 2) w')) 77 49 (M 106 0) else wr M 107 t (avI (t % 2) w')) else M))) (hv : M 107 t = 1000000000 ∨ ∃ w, w ≤ 2 ∧ M 107 t = avI (t % 2) w) : AMv d iX10_tells [.ref 77, .int (nI t), .int (avI (t % 2) w')] M P := by
  have vt : vp_in (nI t) 5 := vp_in_nI ht (by decide)
  have yes : P (if t = 0 then wr (wr M 107 t (avI (t % 2) w')) 77 49 (M 106 0) else wr M 107 t (avI (t % 2) w')) → AX10_tells d (fun r M' => r = none ∧ P M') 41 [lR 77, lI (nI t), lI (avI (t % 2) w'), none] [] M := by
    intro hP
    refine bX10_tells_41 M _ _ (bX10_tells_46 M _ _ _ ⟨fun _ => ⟨vt, ?_⟩, fun z => absurd z (by decide)⟩)
    rw [ix_nI (by omega)]
    refine bq_ne t 0 rfl rfl (by omega) (by omega) (fun z => ⟨rfl, ?_⟩) (fun z => ⟨rfl, ?_⟩)
    · rw [if_neg z] at hP; exact hP
    · rw [if_pos z] at hP; exact hP
  have no : P M → AX10_tells d (fun r M' => r = none ∧ P M') 45 [lR 77, lI (nI t), lI (avI (t % 2) w'), none] [] M := fun hP => bX10_tells_45 M _ _ (bX10_tells_46 M _ _ _ ⟨fun z => absurd rfl z, fun _ => ⟨rfl, hP⟩⟩)
  refine eX10_tells M _ _ (bX10_tells_0 M _ _ ⟨vt, ?_⟩)
  rw [ix_nI (by omega), rem2 (by omega)]
  rcases hv with e | ⟨w, w2, e⟩
  · rw [e]
    exact ⟨fun _ => yes (o.1 e), fun z => absurd rfl z⟩
  · have hP := o.2 w w2 e
    rw [e]
    refine ⟨fun z => absurd z (av_far _ (by omega) w w2), fun _ => bq_ne (t % 2) 0 rfl rfl (by omega) (by omega) (fun z => ⟨vt, ?_⟩) (fun z => ⟨vt, ?_⟩)⟩
    · have e1 : t % 2 = 1 := by omega
      refine ⟨fun q => no ?_, fun q => yes ?_⟩
      · rw [e1, av_le1 w2 hw'] at q
        rw [if_neg (by omega)] at hP; exact hP
      · rw [e1, av_le1 w2 hw'] at q
        rw [if_pos (by omega)] at hP; exact hP
    · refine ⟨fun q => no ?_, fun q => yes ?_⟩
      · rw [z, av_le0 hw' w2] at q
        rw [if_neg (by omega)] at hP; exact hP
      · rw [z, av_le0 hw' w2] at q
        rw [if_pos (by omega)] at hP; exact hP
theorem VM.off8 {M M' : Mem} {s : VD} (h : VM M s) (hf : ∀ k, k < 105 → M' k = M k) : VM M' s := VRel.cg h (fun i _ => by rw [hf 77 (by omega)]) (fun r q1 q2 => hf _ (by revert q2; revert q1; revert r; decide))
theorem c_canChoose (hs : WFV s) (h : VM M s) (hA : ASK M s l) (ht : t < 4) (h8 : M 108 t = nI A) (h9 : M 109 t = nI B) (hAl : A < 65536) (hBl : B < 65536) (hu : u ≤ s 0 0) : AMi (d + 2) iX10_canChoose [.ref 77, .int (nI t), .int (cI u)] M (fun r M' => (∀ k, k ≠ 108 → k ≠ 109 → M' k = M k) ∧ (∀ j, j ≠ t + 1 → M' 108 j = M 108 j ∧ M' 109 j = M 109 j) ∧ ((r = 0 ∧ ∃ p, u = p + 1 ∧ okP s l (mi (t % 2) A B) (mi (t % 2) B A) p = false) ∨ (r = 1 ∧ (∀ p, u = p + 1 → okP s l (mi (t % 2) A B) (mi (t % 2) B A) p = true) ∧ M' 108 (t + 1) = nI (if t % 2 = 0 then adN A u else A) ∧ M' 109 (t + 1) = nI (if t % 2 = 0 then B else adN B u)))) := by
  have hn := hs.1
  have v0 : vp_in (nI t) 5 := vp_in_nI (by omega) (by decide)
  have v1 : vp_in (nI (t + 1)) 5 := vp_in_nI (by omega) (by decide)
  refine eX10_canChoose M _ _ (bX10_canChoose_0 M _ _ ?_)
  rw [nI_1 t, ix_nI (n := t) (by omega), ix_nI (n := t + 1) (by omega), h8, h9, rem2 (by omega)]
  have r8 : wr M 108 (t + 1) (nI A) 108 t = nI A := by rw [wr_el (by omega)]; exact h8
  generalize hM1 : wr (wr M 108 (t + 1) (nI A)) 109 (t + 1) (nI B) = M1
  have g1 : ∀ k, k ≠ 108 → k ≠ 109 → M1 k = M k := fun k q1 q2 => by rw [← hM1, wr_row q2, wr_row q1]
  have g2 : ∀ j, j ≠ t + 1 → M1 108 j = M 108 j ∧ M1 109 j = M 109 j := fun j hj => by
    rw [← hM1]
    exact ⟨by rw [wr_row (by omega), wr_el hj], by rw [wr_el hj, wr_row (by omega)]⟩
  have n8 : M1 108 (t + 1) = nI A := by rw [← hM1, wr_row (by omega)]; exact wr_same _ _ _ _
  have n9 : M1 109 (t + 1) = nI B := by rw [← hM1]; exact wr_same _ _ _ _
  have t9 : M1 109 t = nI B := by rw [(g2 t (by omega)).2]; exact h9
  have kn : M1 77 0 = nI (s 0 0) := by rw [g1 77 (by omega) (by omega)]; exact h.1 0 (by decide)
  have hV1 : VM M1 s := h.off8 (fun k hk => g1 k (by omega) (by omega))
  have hA1 : ASK M1 s l := fun a b q1 q2 => by rw [g1 98 (by omega) (by omega)]; exact hA a b q1 q2
  rw [r8, t9, kn]
  refine ⟨v0, v1, v0, v1, fun z => ?_, fun z => ?_⟩
  · obtain ⟨p, rfl⟩ : ∃ p, u = p + 1 := ⟨u - 1, by
      by_cases e : u = 0
      · rw [e] at z; exact absurd (by decide : cI 0 = -1) z
      · omega⟩
    have eu : cI (p + 1) = nI p := nI_pred p
    rw [eu, fa_or]
    have hor : A ||| B < 65536 := or_lt (k := 16) hAl hBl
    have no : okP s l (mi (t % 2) A B) (mi (t % 2) B A) p = false → ∃ x : Int32, some (0 : Int32) = some x ∧ (∀ k, k ≠ 108 → k ≠ 109 → M1 k = M k) ∧ (∀ j, j ≠ t + 1 → M1 108 j = M 108 j ∧ M1 109 j = M 109 j) ∧ ((x = 0 ∧ ∃ q, p + 1 = q + 1 ∧ okP s l (mi (t % 2) A B) (mi (t % 2) B A) q = false) ∨ (x = 1 ∧ (∀ q, p + 1 = q + 1 → okP s l (mi (t % 2) A B) (mi (t % 2) B A) q = true) ∧ M1 108 (t + 1) = nI (if t % 2 = 0 then adN A (p + 1) else A) ∧ M1 109 (t + 1) = nI (if t % 2 = 0 then B else adN B (p + 1)))) := fun e => ⟨_, rfl, g1, g2, Or.inl ⟨rfl, p, rfl, e⟩⟩
    have mt : mi (t % 2) A B ||| mi (t % 2) B A = A ||| B := by
      rw [mi, mi]
      by_cases e : t % 2 = 0
      · rw [if_pos e, if_pos e]
      · rw [if_neg e, if_neg e, Nat.or_comm]
    refine bq_isP _ p (by omega) (by omega) rfl (fun q => by omega) (fun hp => ⟨v0, v0, bq_has _ p rfl rfl (by omega) (by omega) (fun q => ?_) (fun q => no ?_)⟩)
    · have mlt : mi (t % 2) A B < 65536 := by rw [mi]; split <;> omega
      have okb : okP s l (mi (t % 2) A B) (mi (t % 2) B A) p = decide (¬ lbN s l (mi (t % 2) A B) p (s 0 0) = 1000000000) := by rw [okP, mt, q]; rfl
      have lb := lbN_le hs (l := l) (set := mi (t % 2) A B) (p := p) (s 0 0)
      have go : AX10_canChoose (d + 2) (fun r M' => ∃ x, r = some x ∧ (∀ k, k ≠ 108 → k ≠ 109 → M' k = M k) ∧ (∀ j, j ≠ t + 1 → M' 108 j = M 108 j ∧ M' 109 j = M 109 j) ∧ ((x = 0 ∧ ∃ q, p + 1 = q + 1 ∧ okP s l (mi (t % 2) A B) (mi (t % 2) B A) q = false) ∨ (x = 1 ∧ (∀ q, p + 1 = q + 1 → okP s l (mi (t % 2) A B) (mi (t % 2) B A) q = true) ∧ M' 108 (t + 1) = nI (if t % 2 = 0 then adN A (p + 1) else A) ∧ M' 109 (t + 1) = nI (if t % 2 = 0 then B else adN B (p + 1))))) 87 [lR 77, lI (nI t), lI (nI p)] [.int (nI (mi (t % 2) A B)), .ref 77] M1 := by
        refine bX10_canChoose_87 M1 _ _ _ ((c_leastBy hs hV1 hA1 (by omega) hp).i ?_)
        rw [nI_1 t, ix_nI (n := t + 1) (by omega), rem2 (by omega), n8, n9, or1 (by omega), or1 (by omega)]
        refine bq_ne _ 1000000000 rfl rfl (by omega) (by omega) (fun q2 => ?_) (fun q2 => ⟨_, rfl, g1, g2, Or.inl ⟨rfl, p, rfl, by rw [okb, decide_eq_false (fun w => w q2)]⟩⟩)
        have okt : ∀ q, p + 1 = q + 1 → okP s l (mi (t % 2) A B) (mi (t % 2) B A) q = true := fun q e => by
          have : q = p := by omega
          rw [this, okb, decide_eq_true q2]
        have ad : ∀ X, adN X (p + 1) = X ||| 2 ^ p := fun X => if_neg (by omega)
        refine bq_ne (t % 2) 0 rfl rfl (by omega) (by omega) (fun e => ⟨v1, v1, _, rfl, fun k k1 k2 => (wr_row k2).trans (g1 k k1 k2), fun j hj => ⟨by rw [wr_row (by omega)]; exact (g2 j hj).1, by rw [wr_el hj]; exact (g2 j hj).2⟩, Or.inr ⟨rfl, okt, ?_, ?_⟩⟩) (fun e => ⟨v1, v1, _, rfl, fun k k1 k2 => (wr_row k1).trans (g1 k k1 k2), fun j hj => ⟨by rw [wr_el hj]; exact (g2 j hj).1, by rw [wr_row (by omega)]; exact (g2 j hj).2⟩, Or.inr ⟨rfl, okt, ?_, ?_⟩⟩)
        · rw [wr_row (by omega), n8, if_neg e]
        · rw [wr_same, if_neg e, ad]
        · rw [wr_same, if_pos e, ad]
        · rw [wr_row (by omega), n9, if_pos e]
      refine bq_ne (t % 2) 0 rfl rfl (by omega) (by omega) (fun e => ⟨v0, ?_⟩) (fun e => ⟨v0, ?_⟩)
      · have em : mi (t % 2) A B = B := if_neg e
        rw [em] at go
        rw [em]
        exact go
      · have em : mi (t % 2) A B = A := if_pos e
        rw [em] at go
        rw [em]
        exact go
    · rw [okP, mt, q]; rfl
  · have u0 : u = 0 := by
      by_cases e : u = 0
      · exact e
      · obtain ⟨p, rfl⟩ : ∃ p, u = p + 1 := ⟨u - 1, by omega⟩
        have eu : cI (p + 1) = nI p := nI_pred p
        rw [eu] at z
        exact absurd z (nI_nm1 (by omega))
    subst u0
    refine ⟨_, rfl, g1, g2, Or.inr ⟨rfl, fun p e => by omega, ?_, ?_⟩⟩
    · rw [n8]; split <;> rfl
    · rw [n9]; split <;> rfl
end PM
