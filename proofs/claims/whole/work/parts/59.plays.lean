/-! AGAINST: the model plays -/
theorem av_flip : ∀ c, c ≤ 1 → ∀ x, x ≤ 2 → avI (1 - c) x = avI c (2 - x)
  | 0, _, 0, _ => by decide
  | 0, _, 1, _ => by decide
  | 0, _, 2, _ => by decide
  | 1, _, 0, _ => by decide
  | 1, _, 1, _ => by decide
  | 1, _, 2, _ => by decide
  | c + 2, h, _, _ => by omega
  | _, _, x + 3, h => by omega
theorem cI_lt {u R : Nat} (hu : u ≤ R) (hR : R ≤ 16) : cI u < nI R := by
  cases u with
  | zero => exact Int32.lt_of_lt_of_le (by decide : cI 0 < 0) (nI_pos' (by omega))
  | succ p =>
    rw [show cI (p + 1) = nI p from nI_pred p]
    exact nI_lt (by omega) (by omega)
theorem cI_s (u : Nat) : cI u + 1 = cI (u + 1) := by
  rw [cI, cI, show nI u - 1 + 1 = nI u from by rw [Int32.sub_add_cancel], nI_pred]
section PY
variable {d N a b : Nat} {s l : VD}
/-- what a level leaves alone -/
def FP (t : Nat) (M M' : Mem) : Prop := (∀ k, (k < 105 ∨ 109 < k) → k ≠ 77 → M' k = M k) ∧ (∀ j, j ≠ 49 → M' 77 j = M 77 j) ∧ (0 < t → M' 77 49 = M 77 49) ∧ (∀ j, j < t → M' 106 j = M 106 j ∧ M' 107 j = M 107 j) ∧ ∀ j, j ≤ t → M' 108 j = M 108 j ∧ M' 109 j = M 109 j
theorem FP.rf {t : Nat} {M : Mem} : FP t M M := ⟨fun _ _ _ => rfl, fun _ _ => rfl, fun _ => rfl, fun _ _ => ⟨rfl, rfl⟩, fun _ _ => ⟨rfl, rfl⟩⟩
theorem FP.tr {t : Nat} {M M1 M2 : Mem} (h : FP t M M1) (h2 : FP t M1 M2) : FP t M M2 := ⟨fun k q1 q2 => (h2.1 k q1 q2).trans (h.1 k q1 q2), fun j q => (h2.2.1 j q).trans (h.2.1 j q), fun q => (h2.2.2.1 q).trans (h.2.2.1 q), fun j q => ⟨(h2.2.2.2.1 j q).1.trans (h.2.2.2.1 j q).1, (h2.2.2.2.1 j q).2.trans (h.2.2.2.1 j q).2⟩, fun j q => ⟨(h2.2.2.2.2 j q).1.trans (h.2.2.2.2 j q).1, (h2.2.2.2.2 j q).2.trans (h.2.2.2.2 j q).2⟩⟩
theorem FP.up {t : Nat} {M M' : Mem} (h : FP (t + 1) M M') : FP t M M' ∧ M' 106 t = M 106 t ∧ M' 107 t = M 107 t := ⟨⟨h.1, h.2.1, fun _ => h.2.2.1 (by omega), fun j q => h.2.2.2.1 j (by omega), fun j q => h.2.2.2.2 j (by omega)⟩, (h.2.2.2.1 t (by omega)).1, (h.2.2.2.1 t (by omega)).2⟩
theorem FP.w6 {t : Nat} {M M1 : Mem} (h : FP t M M1) {j : Nat} (x : Int32) (hj : t ≤ j) : FP t M (wr M1 106 j x) := ⟨fun k q1 q2 => (wr_row (by omega)).trans (h.1 k q1 q2), fun i q => by rw [wr_row (by omega)]; exact h.2.1 i q, fun q => by rw [wr_row (by omega)]; exact h.2.2.1 q, fun i q => ⟨by rw [wr_el (by omega)]; exact (h.2.2.2.1 i q).1, by rw [wr_row (by omega)]; exact (h.2.2.2.1 i q).2⟩, fun i q => ⟨by rw [wr_row (by omega)]; exact (h.2.2.2.2 i q).1, by rw [wr_row (by omega)]; exact (h.2.2.2.2 i q).2⟩⟩
theorem FP.w7 {t : Nat} {M M1 : Mem} (h : FP t M M1) {j : Nat} (x : Int32) (hj : t ≤ j) : FP t M (wr M1 107 j x) := ⟨fun k q1 q2 => (wr_row (by omega)).trans (h.1 k q1 q2), fun i q => by rw [wr_row (by omega)]; exact h.2.1 i q, fun q => by rw [wr_row (by omega)]; exact h.2.2.1 q, fun i q => ⟨by rw [wr_row (by omega)]; exact (h.2.2.2.1 i q).1, by rw [wr_el (by omega)]; exact (h.2.2.2.1 i q).2⟩, fun i q => ⟨by rw [wr_row (by omega)]; exact (h.2.2.2.2 i q).1, by rw [wr_row (by omega)]; exact (h.2.2.2.2 i q).2⟩⟩
theorem c_endsAs {M : Mem} {n A B : Nat} (hs : WFV s) (h : VM M s) (hA : ASK M s l) (ha : a < s 0 2) (hb : b < s 0 2) (hn : n < 5) (h8 : M 108 n = nI A) (h9 : M 109 n = nI B) (hAl : A < 65536) (hBl : B < 65536) {hv : Nat → Nat → Nat} (hh : ∀ c x, hv c x ≤ 1 ∧ (hv c x = 1 ↔ HS s l (if c = 0 then s 6 a else s 6 b) x)) : AMp (d + 3) iX10_endsAs [.ref 77, .int (nI a), .int (nI b), .int (nI n)] M (cI (hv 0 A + 1 - hv 1 B)) := by
  have hO := hs.2.2.1
  have va : vp_in (nI a) 12 := vp_in_nI (by omega) (by decide)
  have vb : vp_in (nI b) 12 := vp_in_nI (by omega) (by decide)
  have vn : vp_in (nI n) 5 := vp_in_nI hn (by decide)
  have ka : M 99 a = nI (s 6 a) := h.2 6 a (by decide) (by decide) (show a < 12 by omega)
  have kb : M 99 b = nI (s 6 b) := h.2 6 b (by decide) (by decide) (show b < 12 by omega)
  have wa := (hs.2.2.2.2.2.2.2 a ha).1
  have wb := (hs.2.2.2.2.2.2.2 b hb).1
  obtain ⟨a1, a2⟩ := hh 0 A
  obtain ⟨b1, b2⟩ := hh 1 B
  have a2 : hv 0 A = 1 ↔ HS s l (s 6 a) A := a2
  have b2 : hv 1 B = 1 ↔ HS s l (s 6 b) B := b2
  have second : ∀ x, x = nI (hv 0 A) → AX10_endsAs (d + 3) (fun r M' => some (cI (hv 0 A + 1 - hv 1 B)) = r ∧ M = M') 24 [lR 77, none, lI (nI b), lI (nI n)] [.int x] M := by
    rintro x rfl
    refine bX10_endsAs_24 M _ _ _ ⟨vb, vn, ?_⟩
    rw [ix_nI (n := b) (by omega), ix_nI (n := n) (by omega), kb, h9]
    obtain ⟨y, hy⟩ := HS_x s l (s 6 b) B
    refine (c_holdsBy hs h hA (by omega) wb hy).i ?_
    rcases hy with ⟨rfl, q⟩ | ⟨rfl, q⟩
    · refine ⟨fun z => absurd z (by decide), fun _ => ⟨?_, rfl⟩⟩
      rw [b2.mpr q, show (1 : Int32) = nI 1 from rfl, cI_sub _ a1 1 (by omega)]
    · have : hv 1 B = 0 := by
        by_cases e : hv 1 B = 1
        · exact absurd (b2.mp e) q
        · omega
      refine ⟨fun _ => ⟨?_, rfl⟩, fun z => absurd rfl z⟩
      rw [this, show (0 : Int32) = nI 0 from rfl, cI_sub _ a1 0 (by omega)]
  refine eX10_endsAs M _ _ _ (bX10_endsAs_0 M _ _ _ ⟨va, vn, ?_⟩)
  rw [ix_nI (n := a) (by omega), ix_nI (n := n) (by omega), ka, h8]
  obtain ⟨y, hy⟩ := HS_x s l (s 6 a) A
  refine (c_holdsBy hs h hA (by omega) wa hy).i ?_
  rcases hy with ⟨rfl, q⟩ | ⟨rfl, q⟩
  · exact ⟨fun z => absurd z (by decide), fun _ => second _ (by rw [a2.mpr q]; rfl)⟩
  · have : hv 0 A = 0 := by
      by_cases e : hv 0 A = 1
      · exact absurd (a2.mp e) q
      · omega
    exact ⟨fun _ => second _ (by rw [this]; rfl), fun z => absurd rfl z⟩
end PY
