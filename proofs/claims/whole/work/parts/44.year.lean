/-! A YEAR -/
def agTo (s : VD) (p : Nat) : VD := fun r j => if r = 3 ∧ j < p ∧ (s 0 1).testBit j = true then min 99 (s 3 j + 1) else s r j
def gwN (s l : VD) (dr p : Nat) : Nat := ix (fwL l (f1S s p dr) 103 9) + (if s 1 p = 2 ∧ s 3 p < 20 then 1 else 0)
def tlTo (s l : VD) (dr p : Nat) : VD := fun r j => if r = 2 ∧ j < p ∧ (s 0 1).testBit j = true then min 99 (s 2 j + gwN s l dr j) else s r j
def dyTo (s l : VD) (dr : Nat) : Nat → Nat
  | 0 => 0
  | p + 1 => if (s 0 1).testBit p && anyL l (f1S s p dr) 120 then dyTo s l dr p ||| 2 ^ p else dyTo s l dr p
def gtS (s l : VD) (dr : Nat) : VD := tlTo (agTo s (s 0 0)) l dr (s 0 0)
def dyN (s l : VD) (dr : Nat) : Nat := dyTo (gtS s l dr) l dr (s 0 0)
def pyS (s l : VD) (dr : Nat) : VD := wrN (wrN (gtS s l dr) 0 1 (sd (s 0 1) (dyN s l dr))) 0 3 (min 999 (s 0 3 + 1))
theorem ag_t {s : VD} {p : Nat} (h : (s 0 1).testBit p = true) : agTo s (p + 1) = wrN (agTo s p) 3 p (min 99 (s 3 p + 1)) := by
  funext r j
  by_cases e : r = 3 ∧ j = p
  · obtain ⟨rfl, rfl⟩ := e
    rw [wrN_same]
    exact if_pos ⟨rfl, by omega, h⟩
  · rw [wrN_ne e]
    show (if _ then _ else _) = (if _ then _ else _)
    by_cases q : r = 3 ∧ j < p ∧ (s 0 1).testBit j = true
    · rw [if_pos q, if_pos ⟨q.1, by omega, q.2.2⟩]
    · rw [if_neg q, if_neg (fun w => q ⟨w.1, by omega, w.2.2⟩)]
theorem ag_f {s : VD} {p : Nat} (h : (s 0 1).testBit p = false) : agTo s (p + 1) = agTo s p := by
  funext r j
  show (if _ then _ else _) = (if _ then _ else _)
  by_cases q : r = 3 ∧ j < p ∧ (s 0 1).testBit j = true
  · rw [if_pos q, if_pos ⟨q.1, by omega, q.2.2⟩]
  · rw [if_neg q, if_neg (fun w => q ⟨w.1, by
      by_cases e : j = p
      · rw [e, h] at w; exact absurd w.2.2 (by decide)
      · omega, w.2.2⟩)]
theorem ag_0 (s : VD) : agTo s 0 = s := by
  funext r j
  exact if_neg (fun w => by omega)
theorem ag_at {s : VD} {p r j : Nat} (h : ¬ r = 3) : agTo s p r j = s r j := if_neg (fun w => h w.1)
theorem ag_hi {s : VD} {p j : Nat} (h : p ≤ j) : agTo s p 3 j = s 3 j := if_neg (fun w => by omega)
theorem ag_wf {s : VD} (h : WFV s) (p : Nat) : WFV (agTo s p) := by
  obtain ⟨h1, h2, h3, h4, h5, h6, h7, h8⟩ := h
  refine ⟨h1, h2, h3, h4, h5, fun j hj => ?_, h7, h8⟩
  obtain ⟨a1, a2, a3, a4, a5⟩ := h6 j hj
  refine ⟨a1, a2, ?_, a4, a5⟩
  show (if _ then _ else _) ≤ 99
  split
  · exact Nat.min_le_left _ _
  · exact a3
theorem tl_t {s l : VD} {dr p : Nat} (h : (s 0 1).testBit p = true) : tlTo s l dr (p + 1) = wrN (tlTo s l dr p) 2 p (min 99 (s 2 p + gwN s l dr p)) := by
  funext r j
  by_cases e : r = 2 ∧ j = p
  · obtain ⟨rfl, rfl⟩ := e
    rw [wrN_same]
    exact if_pos ⟨rfl, by omega, h⟩
  · rw [wrN_ne e]
    show (if _ then _ else _) = (if _ then _ else _)
    by_cases q : r = 2 ∧ j < p ∧ (s 0 1).testBit j = true
    · rw [if_pos q, if_pos ⟨q.1, by omega, q.2.2⟩]
    · rw [if_neg q, if_neg (fun w => q ⟨w.1, by omega, w.2.2⟩)]
theorem tl_f {s l : VD} {dr p : Nat} (h : (s 0 1).testBit p = false) : tlTo s l dr (p + 1) = tlTo s l dr p := by
  funext r j
  show (if _ then _ else _) = (if _ then _ else _)
  by_cases q : r = 2 ∧ j < p ∧ (s 0 1).testBit j = true
  · rw [if_pos q, if_pos ⟨q.1, by omega, q.2.2⟩]
  · rw [if_neg q, if_neg (fun w => q ⟨w.1, by
      by_cases e : j = p
      · rw [e, h] at w; exact absurd w.2.2 (by decide)
      · omega, w.2.2⟩)]
theorem tl_0 (s l : VD) (dr : Nat) : tlTo s l dr 0 = s := by
  funext r j
  exact if_neg (fun w => by omega)
theorem tl_at {s l : VD} {dr p r j : Nat} (h : ¬ r = 2) : tlTo s l dr p r j = s r j := if_neg (fun w => h w.1)
theorem tl_hi {s l : VD} {dr p j : Nat} (h : p ≤ j) : tlTo s l dr p 2 j = s 2 j := if_neg (fun w => by omega)
theorem tl_wf {s l : VD} {dr : Nat} (h : WFV s) (p : Nat) : WFV (tlTo s l dr p) := by
  obtain ⟨h1, h2, h3, h4, h5, h6, h7, h8⟩ := h
  refine ⟨h1, h2, h3, h4, h5, fun j hj => ?_, fun j hj => ?_, h8⟩
  · obtain ⟨a1, a2, a3, a4, a5⟩ := h6 j hj
    refine ⟨a1, ?_, a3, a4, a5⟩
    show (if _ then _ else _) ≤ 99
    split
    · exact Nat.min_le_left _ _
    · exact a2
  · have := h7 j hj
    show 1 ≤ (if _ then _ else _)
    split
    · exact Nat.le_min.mpr ⟨by omega, by omega⟩
    · exact this
theorem gw_eq (s l : VD) (dr p : Nat) : nI (gwN s l dr p) = fwL l (f1S s p dr) 103 9 + nI (if s 1 p = 2 ∧ s 3 p < 20 then 1 else 0) ∧ gwN s l dr p ≤ 10 := by
  obtain ⟨n, hn, e⟩ := fw_nI (l := l) (f := f1S s p dr) (g := 103) 9 (by omega)
  have e : fwL l (f1S s p dr) 103 9 = nI n := e
  rw [gwN, e, ix_nI (by omega), nI_add]
  refine ⟨rfl, ?_⟩
  split <;> omega
theorem dy_lt {s l : VD} {dr : Nat} : ∀ p, p ≤ 16 → dyTo s l dr p < 2 ^ p
  | 0, _ => Nat.one_pos
  | p + 1, h => by
    have := dy_lt (s := s) (l := l) (dr := dr) p (by omega)
    have e : 2 ^ p < 2 ^ (p + 1) := p2_lt (by omega)
    rw [dyTo]
    split
    · exact or_lt (by omega) e
    · omega
theorem py_wf {s l : VD} {dr : Nat} (h : WFV s) : WFV (pyS s l dr) := by
  have hg : WFV (gtS s l dr) := tl_wf (ag_wf h _) _
  obtain ⟨h1, h2, h3, h4, h5, h6, h7, h8⟩ := hg
  refine ⟨h1, ?_, h3, ?_, h5, h6, h7, h8⟩
  · show sd (s 0 1) (dyN s l dr) < 2 ^ s 0 0
    exact sd_lt h.2.1
  · show min 999 (s 0 3 + 1) ≤ 999
    omega
theorem min_if (a b : Nat) (ha : a < 2 ^ 31) (hb : b < 2 ^ 31) : (if nI a < nI b then nI a else nI b) = nI (min a b) := min_nI ha hb
section YM
variable {d w p : Nat} {s l : VD} {M : Mem}
theorem VM.off5 {M M' : Mem} {s : VD} (h : VM M s) (h0 : M' 77 = M 77) (hf : ∀ k, k ≠ 96 → k ≠ 97 → k ≠ 102 → k ≠ 77 → M' k = M k) : VM M' s := VRel.cg h (fun i _ => by rw [h0]) (fun r q1 q2 => hf _ (by revert q2; revert q1; revert r; decide) (by revert q2; revert q1; revert r; decide) (by revert q2; revert q1; revert r; decide) (by revert q2; revert q1; revert r; decide))
theorem feel_dr {M1 : Mem} {dr : Nat} (h1 : ∀ j, j < 12 → M1 97 j = f1S s p 0 j) : ∀ j, j < 12 → wr M1 97 11 (nI dr) 97 j = f1S s p dr j := by
  intro j hj
  by_cases e : j = 11
  · rw [e, wr_same]; rfl
  · rw [wr_el e, h1 j hj]
    match j, hj with
    | 0, _ => rfl
    | 1, _ => rfl
    | 2, _ => rfl
    | 3, _ => rfl
    | 4, _ => rfl
    | 5, _ => rfl
    | 6, _ => rfl
    | 7, _ => rfl
    | 8, _ => rfl
    | 9, _ => rfl
    | 10, _ => rfl
    | 11, _ => exact absurd rfl e
    | j + 12, h => omega
theorem c_passes {dr : Nat} (hs : WFV s) (hl : WFL l) (h : VM M s) (hL : LM 0 M l) (hdr : dr ≤ 9) : AMi (d + 3) iX10_passes [.ref 77, .int (nI dr)] M (fun r M' => r = nI (cnt (dyN s l dr)) ∧ VM M' (pyS s l dr) ∧ Fr 77 [79, 80, 96, 97, 102] [1, 2] M M') := by
  have hn := hs.1
  have hlv := hs.live
  refine eX10_passes M _ (bX10_passes_0 M _ ?_)
  -- older
  refine up_loop (P := fun p => ∀ M', VM M' (agTo s p) → Fr 77 [79, 80, 96, 97, 102] [1, 2] M M' → AX10_passes (d + 3) (fun r M' => ∃ x, r = some x ∧ x = nI (cnt (dyN s l dr)) ∧ VM M' (pyS s l dr) ∧ Fr 77 [79, 80, 96, 97, 102] [1, 2] M M') 2 [lR 77, lI (nI dr), lI (nI p), none] [] M') (s 0 0) 0 (by omega) ?_ ?_ M (by rw [ag_0]; exact h) Fr.rf
  rotate_left
  · intro p _ hp ih M' h' g
    have kn : M' 77 0 = nI (s 0 0) := h'.1 0 (by decide)
    have kl : M' 77 1 = nI (s 0 1) := h'.1 1 (by decide)
    have k3 : M' 80 p = nI (s 3 p) := by
      have := h'.2 3 p (by decide) (by decide) (show p < 16 by omega)
      rw [ag_hi (Nat.le_refl _)] at this
      exact this
    have a3 := (hs.2.2.2.2.2.1 p (by omega)).2.2.1
    have vi : vp_in (nI p) 16 := vp_in_nI (by omega) (by decide)
    refine bX10_passes_2 M' _ _ ?_
    rw [kn, kl, nI_1 p, ix_nI (by omega), k3, nI_1 (s 3 p), show (99 : Int32) = nI 99 from rfl, min_nI (by omega) (by omega)]
    refine bq_le _ _ rfl rfl (by omega) (by omega) (fun z => by omega) (fun _ => bq_has _ p rfl rfl (by omega) (by omega) (fun q => ih M' (by rw [ag_f q]; exact h') g) (fun q => ⟨vi, vi, ih _ ?_ (g.w 80 _ _ (by decide) (by decide))⟩))
    rw [ag_t q]
    exact h'.rw (r := 3) (by omega) (by omega) p _
  intro M1 h1 g1
  generalize hA : agTo s (s 0 0) = A at h1
  have sA : WFV A := by rw [← hA]; exact ag_wf hs _
  have A00 : A 0 0 = s 0 0 := by rw [← hA]; exact ag_at (by omega)
  have A01 : A 0 1 = s 0 1 := by rw [← hA]; exact ag_at (by omega)
  have A03 : A 0 3 = s 0 3 := by rw [← hA]; exact ag_at (by omega)
  have kn : M1 77 0 = nI (s 0 0) := by rw [← A00]; exact h1.1 0 (by decide)
  refine bX10_passes_2 M1 _ _ ?_
  rw [kn]
  refine bq_le _ _ rfl rfl (by omega) (by omega) (fun _ => ?_) (fun z => by omega)
  -- asked
  refine up_loop (P := fun p => ∀ M', VM M' A → (∀ q, q < p → M' 102 q = nI (gwN A l dr q)) → Fr 77 [79, 80, 96, 97, 102] [1, 2] M M' → AX10_passes (d + 3) (fun r M' => ∃ x, r = some x ∧ x = nI (cnt (dyN s l dr)) ∧ VM M' (pyS s l dr) ∧ Fr 77 [79, 80, 96, 97, 102] [1, 2] M M') 48 [lR 77, lI (nI dr), lI (nI p), none] [] M') (s 0 0) 0 (by omega) ?_ ?_ M1 h1 (fun q hq => by omega) g1
  rotate_left
  · intro p _ hp ih M' h' hg g
    have kn : M' 77 0 = nI (s 0 0) := by rw [← A00]; exact h'.1 0 (by decide)
    have vi : vp_in (nI p) 16 := vp_in_nI (by omega) (by decide)
    refine bX10_passes_48 M' _ _ ?_
    rw [kn, nI_1 p]
    refine bq_le _ _ rfl rfl (by omega) (by omega) (fun z => by omega) (fun _ => (c_feels sA h' (show p < 16 by omega)).mono (fun M2 h2 => ?_))
    have fe := feel_dr (dr := dr) h2.1
    generalize hM3 : wr M2 97 11 (nI dr) = M3 at fe
    have g3 : ∀ k, k ≠ 97 → M3 k = M' k := fun k hk => by rw [← hM3, wr_row hk, h2.2 k hk]
    have f3 : Fr 77 [79, 80, 96, 97, 102] [1, 2] M M3 := by rw [← hM3]; exact (g.tr ⟨fun k k1 k2 => h2.2 k (by simp at k1; omega), fun j _ => by rw [h2.2 77 (by omega)]⟩).w 97 _ _ (by decide) (by decide)
    have hL3 : LM 0 M3 l := hL.fr f3 rfl
    refine (c_byLaw (g := 103) (most := 9) (w := 0) (by omega) hL3 hl (Or.inl rfl)).mono (fun r M4 hr => ?_)
    obtain ⟨rfl, h4⟩ := hr
    rw [fwL_cg hl (Or.inl rfl) fe]
    have h4' : VM M4 A := h'.off5 (by rw [h4 77 (by omega), g3 77 (by omega)]) (fun k q1 q2 q3 _ => by rw [h4 k q1, g3 k q2])
    have f4 : Fr 77 [79, 80, 96, 97, 102] [1, 2] M M4 := f3.tr ⟨fun k k1 k2 => h4 k (by simp at k1; omega), fun j _ => by rw [h4 77 (by omega)]⟩
    have k1 : M4 78 p = nI (A 1 p) := h4'.2 1 p (by decide) (by decide) (show p < 16 by omega)
    have k3 : M4 80 p = nI (A 3 p) := h4'.2 3 p (by decide) (by decide) (show p < 16 by omega)
    have wA := sA.2.2.2.2.2.1 p (by omega)
    rw [ix_nI (n := p) (by omega), k1, k3]
    have fin : ∀ e : Nat, e = (if A 1 p = 2 ∧ A 3 p < 20 then 1 else 0) → AX10_passes (d + 3) (fun r M' => ∃ x, r = some x ∧ x = nI (cnt (dyN s l dr)) ∧ VM M' (pyS s l dr) ∧ Fr 77 [79, 80, 96, 97, 102] [1, 2] M M') 48 [lR 77, lI (nI dr), lI (nI (p + 1)), none] [] (wr M4 102 p (fwL l (f1S A p dr) 103 9 + nI e)) := by
      intro e he
      rw [he, ← (gw_eq A l dr p).1]
      refine ih _ (h4'.off5 (wr_row (by omega)) (fun k _ _ q3 _ => wr_row q3)) (fun q hq => ?_) (f4.w 102 _ _ (by decide) (by decide))
      by_cases z : q = p
      · rw [z]; exact wr_same _ _ _ _
      · rw [wr_el z, h4 102 (by omega), g3 102 (by omega)]; exact hg q (by omega)
    refine ⟨vi, bq_ne _ 2 rfl rfl (by omega) (by omega) (fun z => ⟨vi, fin 0 (by rw [if_neg (fun w => z w.1)])⟩) (fun z => ⟨vi, bq_le 20 _ rfl rfl (by omega) (by omega) (fun z2 => ⟨vi, fin 0 (by rw [if_neg (fun w => by omega)])⟩) (fun z2 => ⟨vi, fin 1 (by rw [if_pos ⟨z, z2⟩])⟩)⟩)⟩
  intro M2 h2 hg g2
  have kn : M2 77 0 = nI (s 0 0) := by rw [← A00]; exact h2.1 0 (by decide)
  refine bX10_passes_48 M2 _ _ ?_
  rw [kn]
  refine bq_le _ _ rfl rfl (by omega) (by omega) (fun _ => ?_) (fun z => by omega)
  -- taller
  refine up_loop (P := fun p => ∀ M', VM M' (tlTo A l dr p) → (∀ q, q < s 0 0 → M' 102 q = nI (gwN A l dr q)) → Fr 77 [79, 80, 96, 97, 102] [1, 2] M M' → AX10_passes (d + 3) (fun r M' => ∃ x, r = some x ∧ x = nI (cnt (dyN s l dr)) ∧ VM M' (pyS s l dr) ∧ Fr 77 [79, 80, 96, 97, 102] [1, 2] M M') 119 [lR 77, lI (nI dr), lI (nI p), none] [] M') (s 0 0) 0 (by omega) ?_ ?_ M2 (by rw [tl_0]; exact h2) hg g2
  rotate_left
  · intro p _ hp ih M' h' hg g
    have kn : M' 77 0 = nI (s 0 0) := by rw [← A00]; exact h'.1 0 (by decide)
    have kl : M' 77 1 = nI (s 0 1) := by rw [← A01]; exact h'.1 1 (by decide)
    have k2 : M' 79 p = nI (A 2 p) := by
      have := h'.2 2 p (by decide) (by decide) (show p < 16 by omega)
      rw [tl_hi (Nat.le_refl _)] at this
      exact this
    have a2 := (sA.2.2.2.2.2.1 p (by omega)).2.1
    have a10 := (gw_eq A l dr p).2
    have vi : vp_in (nI p) 16 := vp_in_nI (by omega) (by decide)
    refine bX10_passes_119 M' _ _ ?_
    rw [kn, kl, nI_1 p, ix_nI (by omega), k2, hg p hp, nI_add, show (99 : Int32) = nI 99 from rfl, min_nI (by omega) (by omega)]
    refine bq_le _ _ rfl rfl (by omega) (by omega) (fun z => by omega) (fun _ => bq_has _ p rfl rfl (by omega) (by omega) (fun q => ih M' (by rw [tl_f (by rw [A01]; exact q)]; exact h') hg g) (fun q => ⟨vi, vi, vi, ih _ ?_ (fun x hx => by rw [wr_row (by omega)]; exact hg x hx) (g.w 79 _ _ (by decide) (by decide))⟩))
    rw [tl_t (by rw [A01]; exact q)]
    exact h'.rw (r := 2) (by omega) (by omega) p _
  intro M3 h3 hg g3
  have hB : tlTo A l dr (s 0 0) = gtS s l dr := by rw [gtS, hA]
  rw [hB] at h3
  have sB : WFV (gtS s l dr) := by rw [← hB]; exact tl_wf sA _
  have B00 : gtS s l dr 0 0 = s 0 0 := by rw [← hB, tl_at (by omega)]; exact A00
  have B01 : gtS s l dr 0 1 = s 0 1 := by rw [← hB, tl_at (by omega)]; exact A01
  have B03 : gtS s l dr 0 3 = s 0 3 := by rw [← hB, tl_at (by omega)]; exact A03
  generalize hB2 : gtS s l dr = B at h3 sB B00 B01 B03
  have kn : M3 77 0 = nI (s 0 0) := by rw [← B00]; exact h3.1 0 (by decide)
  refine bX10_passes_119 M3 _ _ ?_
  rw [kn]
  refine bq_le _ _ rfl rfl (by omega) (by omega) (fun _ => ?_) (fun z => by omega)
  -- who dies
  refine up_loop (P := fun p => ∀ M', VM M' B → Fr 77 [79, 80, 96, 97, 102] [1, 2] M M' → AX10_passes (d + 3) (fun r M' => ∃ x, r = some x ∧ x = nI (cnt (dyN s l dr)) ∧ VM M' (pyS s l dr) ∧ Fr 77 [79, 80, 96, 97, 102] [1, 2] M M') 172 [lR 77, lI (nI dr), lI (nI (dyTo B l dr p)), lI (nI p)] [] M') (s 0 0) 0 (by omega) ?_ ?_ M3 h3 g3
  · intro M' h' g
    have kn : M' 77 0 = nI (s 0 0) := by rw [← B00]; exact h'.1 0 (by decide)
    have kl : M' 77 1 = nI (s 0 1) := by rw [← B01]; exact h'.1 1 (by decide)
    have ky : M' 77 2 = nI (s 0 3) := by rw [← B03]; exact h'.1 3 (by decide)
    have y9 := hs.2.2.2.1
    have dl := dy_lt (s := B) (l := l) (dr := dr) (s 0 0) hn
    have dl2 : dyTo B l dr (s 0 0) < 65536 := Nat.lt_of_lt_of_le dl (Nat.pow_le_pow_right (by omega) hn)
    have eD : dyN s l dr = dyTo B l dr (s 0 0) := by rw [dyN, hB2]
    refine bX10_passes_172 M' _ _ _ ?_
    rw [kn, kl, ky, andn, bits_nI (by omega), nI_1 (s 0 3), show (999 : Int32) = nI 999 from rfl, min_nI (by omega) (by omega)]
    refine bq_le _ _ rfl rfl (by omega) (by omega) (fun _ => ⟨_, rfl, by rw [eD], ?_, (g.wo 1 _ (by decide)).wo 2 _ (by decide)⟩) (fun z => by omega)
    rw [pyS, hB2, eD]
    exact (h'.sc (i := 1) (by omega) _).sc (i := 3) (by omega) _
  · intro p _ hp ih M' h' g
    have kn : M' 77 0 = nI (s 0 0) := by rw [← B00]; exact h'.1 0 (by decide)
    refine bX10_passes_172 M' _ _ _ ?_
    rw [kn, nI_1 p, or1 (by omega)]
    refine bq_le _ _ rfl rfl (by omega) (by omega) (fun z => by omega) (fun _ => (c_feels sB h' (show p < 16 by omega)).mono (fun M2 h2 => ?_))
    have fe := feel_dr (dr := dr) h2.1
    have k77 : M2 77 1 = nI (s 0 1) := by rw [h2.2 77 (by omega), ← B01]; exact h'.1 1 (by decide)
    rw [k77]
    generalize hM3 : wr M2 97 11 (nI dr) = M3 at fe
    have g3 : ∀ k, k ≠ 97 → M3 k = M' k := fun k hk => by rw [← hM3, wr_row hk, h2.2 k hk]
    have f3 : Fr 77 [79, 80, 96, 97, 102] [1, 2] M M3 := by rw [← hM3]; exact (g.tr ⟨fun k k1 k2 => h2.2 k (by simp at k1; omega), fun j _ => by rw [h2.2 77 (by omega)]⟩).w 97 _ _ (by decide) (by decide)
    have h3' : VM M3 B := h'.off5 (by rw [g3 77 (by omega)]) (fun k q1 q2 q3 _ => by rw [g3 k q2])
    refine bq_has _ p rfl rfl (by omega) (by omega) (fun q => ?_) (fun q => ?_)
    · have e : dyTo B l dr (p + 1) = dyTo B l dr p := by rw [dyTo, B01, q]; rfl
      have := ih M3 h3' f3
      rw [e] at this
      exact this
    · have hL3 : LM 0 M3 l := hL.fr f3 rfl
      refine (c_anyBy (g := 120) (w := 0) (by omega) hL3 hl (by omega)).mono (fun r M4 hr => ?_)
      obtain ⟨rfl, h4⟩ := hr
      rw [anyL_cg hl fe]
      have h4' : VM M4 B := h3'.off5 (by rw [h4 77 (by omega)]) (fun k q1 _ _ _ => h4 k q1)
      have f4 : Fr 77 [79, 80, 96, 97, 102] [1, 2] M M4 := f3.tr ⟨fun k k1 k2 => h4 k (by simp at k1; omega), fun j _ => by rw [h4 77 (by omega)]⟩
      have := ih M4 h4' f4
      cases hE : anyL l (f1S B p dr) 120 with
      | false =>
        have e : dyTo B l dr (p + 1) = dyTo B l dr p := by rw [dyTo, hE, Bool.and_false]; rfl
        rw [e] at this
        exact ⟨fun _ => this, fun z => absurd rfl z⟩
      | true =>
        have e : dyTo B l dr (p + 1) = dyTo B l dr p ||| 2 ^ p := by rw [dyTo, B01, q, hE]; rfl
        rw [e] at this
        exact ⟨fun z => absurd z (by decide), fun _ => this⟩
end YM
