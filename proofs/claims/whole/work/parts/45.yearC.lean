/-! THE CLASS'S YEAR -/
def YF (v la : Nat) (M M' : Mem) : Prop := ∀ k, (k < v ∨ v + 10 < k) → k ≠ la + 7 → M' k = M k
/-- under way in a YEAR -/
def YI (M0 : Mem) (v la y dr : Nat) (M : Mem) (s : VD) : Prop := VC v M s ∧ (∀ j, 6 ≤ j → j ≤ 9 → M (v + 10) j = 0) ∧ M (v + 10) 10 = nI y ∧ M (v + 10) 11 = nI dr ∧ YF v la M0 M
theorem vS.t (v : Nat) (h : vS v) : isT (v + 9) := h.elim (fun e => by subst e; exact Or.inl rfl) (fun e => by subst e; exact Or.inr (Or.inr (Or.inl rfl)))
theorem vS.c (v : Nat) (h : vS v) : v + 10 < K0 ∧ cellD (v + 10) = .inr (.inl (false, 12)) := h.elim (fun e => by subst e; exact ⟨by decide, rfl⟩) (fun e => by subst e; exact ⟨by decide, rfl⟩)
theorem vS.lt (v : Nat) (h : vS v) : LV (v + 9) v := h.elim (fun e => by subst e; exact Or.inl ⟨rfl, rfl⟩) (fun e => by subst e; exact Or.inr (Or.inl ⟨rfl, rfl⟩))
section YC
variable {d v la p y dr : Nat} {s l : VD} {M0 M : Mem}
theorem YI.w (h : YI M0 v la y dr M s) (s' : VD) (k j : Nat) (x : Int32) (hk : v ≤ k ∧ k < v + 10) (hV : VC v (wr M k j x) s') : YI M0 v la y dr (wr M k j x) s' := by
  refine ⟨hV, ?_, ?_, ?_, fun q q1 q2 => (wr_row (by omega)).trans (h.2.2.2.2 q q1 q2)⟩
  · intro i i1 i2; rw [wr_row (by omega)]; exact h.2.1 i i1 i2
  · rw [wr_row (by omega)]; exact h.2.2.1
  · rw [wr_row (by omega)]; exact h.2.2.2.1
theorem c_growOlder (hv : vS v) (hs : WFV s) (h : YI M0 v la y dr M s) : AMv (d + 1) iX8_growOlder [.ref v] M (fun M' => YI M0 v la y dr M' (agTo s (s 0 0))) := by
  have hn := hs.1
  have hlv := hs.live
  have n1 := hv.n
  refine eX8_growOlder M (bX8_growOlder_0 hv.iv M ?_)
  refine up_loop (P := fun p => ∀ M', YI M0 v la y dr M' (agTo s p) → AX8_growOlder (d + 1) (fun r M' => r = none ∧ YI M0 v la y dr M' (agTo s (s 0 0))) 2 [lR v, lI (nI p)] [] M') (s 0 0) 0 (by omega) ?_ ?_ M (by rw [ag_0]; exact h)
  · intro M' h'
    have kn : M' v 7 = nI (s 0 0) := h'.1.1 0 (by decide)
    refine bX8_growOlder_2 hv.iv M' _ ?_
    rw [kn]
    exact bq_le _ _ rfl rfl (by omega) (by omega) (fun _ => ⟨rfl, h'⟩) (fun z => by omega)
  · intro p _ hp ih M' h'
    have kn : M' v 7 = nI (s 0 0) := h'.1.1 0 (by decide)
    have kl : M' v 8 = nI (s 0 1) := h'.1.1 1 (by decide)
    have k3 : M' (v + 3) p = nI (s 3 p) := by
      have := h'.1.2 3 p (by decide) (by decide) (show p < 16 by omega)
      rw [ag_hi (Nat.le_refl _)] at this
      exact this
    have a3 := (hs.2.2.2.2.2.1 p (by omega)).2.2.1
    have vi : vp_in (nI p) 16 := vp_in_nI (by omega) (by decide)
    refine bX8_growOlder_2 hv.iv M' _ ?_
    rw [kn, kl, nI_1 p, ix_nI (by omega), k3, nI_1 (s 3 p), show (99 : Int32) = nI 99 from rfl, min_if _ _ (by omega) (by omega)]
    refine bq_le _ _ rfl rfl (by omega) (by omega) (fun z => by omega) (fun _ => bq_has _ p rfl rfl (by omega) (by omega) (fun q => ih M' (by rw [ag_f q]; exact h')) (fun q => ⟨vi, vi, ih _ ?_⟩))
    rw [ag_t q]
    exact h'.w _ _ _ _ (by omega) (h'.1.rw (r := 3) (by omega) (by omega) p _)
/-- one told -/
theorem YI.told (h : YI M0 v la y dr M s) (hn : v ≤ 23) (hy : s 0 3 = y) {M1 : Mem} (h1 : (∀ j, j < 6 → M1 (v + 9 + 1) j = f1S s p 0 j) ∧ (∀ j, 6 ≤ j → M1 (v + 9 + 1) j = M (v + 9 + 1) j) ∧ ∀ k, k ≠ v + 9 + 1 → M1 k = M k) : YI M0 v la y dr M1 s ∧ ∀ j, j < 12 → M1 (v + 10) j = f1S s p dr j := by
  obtain ⟨a1, a2, a3⟩ := h1
  have z : ∀ j, 6 ≤ j → j ≤ 9 → M1 (v + 10) j = 0 := fun j q1 q2 => (a2 j q1).trans (h.2.1 j q1 q2)
  have t10 : M1 (v + 10) 10 = nI y := (a2 10 (by omega)).trans h.2.2.1
  have t11 : M1 (v + 10) 11 = nI dr := (a2 11 (by omega)).trans h.2.2.2.1
  refine ⟨⟨h.1.cg (a3 v (by omega)) (fun r q1 q2 => a3 _ (by omega)), z, t10, t11, fun k q1 q2 => (a3 k (by omega)).trans (h.2.2.2.2 k q1 q2)⟩, fun j hj => ?_⟩
  match j, hj with
  | 0, _ => exact a1 0 (by omega)
  | 1, _ => exact a1 1 (by omega)
  | 2, _ => exact a1 2 (by omega)
  | 3, _ => exact a1 3 (by omega)
  | 4, _ => exact a1 4 (by omega)
  | 5, _ => exact a1 5 (by omega)
  | 6, _ => exact z 6 (by omega) (by omega)
  | 7, _ => exact z 7 (by omega) (by omega)
  | 8, _ => exact z 8 (by omega) (by omega)
  | 9, _ => exact z 9 (by omega) (by omega)
  | 10, _ => rw [t10, ← hy]; rfl
  | 11, _ => exact t11
  | j + 12, h => omega
theorem YI.off (h : YI M0 v la y dr M s) (hn : v ≤ 23) (hla : aS la) {M1 : Mem} (h1 : ∀ k, k ≠ la + 7 → M1 k = M k) : YI M0 v la y dr M1 s := by
  have n2 := hla.n
  have e := h1 (v + 10) (by omega)
  refine ⟨h.1.cg (h1 v (by omega)) (fun r q1 q2 => h1 _ (by omega)), by rw [e]; exact h.2.1, by rw [e]; exact h.2.2.1, by rw [e]; exact h.2.2.2.1, fun k q1 q2 => (h1 k q2).trans (h.2.2.2.2 k q1 q2)⟩
theorem YI.lc (h : YI M0 v la y dr M s) (hv : vS v) (hla : aS la) (hL : LC la M0 l) : LC la M l := by
  have n1 := hv.n
  have n2 := hla.n
  exact hL.cg (fun r q => h.2.2.2.2 _ (by omega) (by omega))
theorem tl_dead (A : VD) {p : Nat} (h2 : A 2 p ≤ 99) (h : (A 0 1).testBit p = false) : tlTo A l dr (p + 1) = wrN (tlTo A l dr p) 2 p (A 2 p) := by
  rw [tl_f h]
  funext r j
  by_cases e : r = 2 ∧ j = p
  · obtain ⟨rfl, rfl⟩ := e
    rw [wrN_same]
    exact tl_hi (Nat.le_refl _)
  · rw [wrN_ne e]
theorem c_growTaller {A : VD} (hv : vS v) (hla : aS la) (sA : WFV A) (hl : WFL l) (hL : LC la M0 l) (hy : A 0 3 = y) (h : YI M0 v la y dr M A) : AMv (d + 3) iX8_growTaller [.ref v, .ref la] M (fun M' => YI M0 v la y dr M' (tlTo A l dr (A 0 0))) := by
  have hn := sA.1
  have hlv := sA.live
  have n1 := hv.n
  have n2 := hla.n
  refine eX8_growTaller M (bX8_growTaller_0 hv.iv hla.ia M ?_)
  refine up_loop (P := fun p => ∀ M', YI M0 v la y dr M' A → (∀ q, q < p → M' (v + 8) q = nI (if (A 0 1).testBit q then gwN A l dr q else 0)) → AX8_growTaller (d + 3) (fun r M' => r = none ∧ YI M0 v la y dr M' (tlTo A l dr (A 0 0))) 2 [lR v, lR la, lI (nI p), none] [] M') (A 0 0) 0 (by omega) ?_ ?_ M h (fun q hq => by omega)
  · intro M1 h1 hg
    have kn : M1 v 7 = nI (A 0 0) := h1.1.1 0 (by decide)
    refine bX8_growTaller_2 hv.iv hla.ia M1 _ ?_
    rw [kn]
    refine bq_le _ _ rfl rfl (by omega) (by omega) (fun _ => ?_) (fun z => by omega)
    refine up_loop (P := fun p => ∀ M', YI M0 v la y dr M' (tlTo A l dr p) → (∀ q, q < A 0 0 → M' (v + 8) q = nI (if (A 0 1).testBit q then gwN A l dr q else 0)) → AX8_growTaller (d + 3) (fun r M' => r = none ∧ YI M0 v la y dr M' (tlTo A l dr (A 0 0))) 95 [lR v, none, lI (nI p), none] [] M') (A 0 0) 0 (by omega) ?_ ?_ M1 (by rw [tl_0]; exact h1) hg
    · intro M' h' hg
      have kn : M' v 7 = nI (A 0 0) := h'.1.1 0 (by decide)
      refine bX8_growTaller_95 hv.iv M' _ ?_
      rw [kn]
      exact bq_le _ _ rfl rfl (by omega) (by omega) (fun _ => ⟨rfl, h'⟩) (fun z => by omega)
    · intro p _ hp ih M' h' hg
      have kn : M' v 7 = nI (A 0 0) := h'.1.1 0 (by decide)
      have k2 : M' (v + 2) p = nI (A 2 p) := by
        have := h'.1.2 2 p (by decide) (by decide) (show p < 16 by omega)
        rw [tl_hi (Nat.le_refl _)] at this
        exact this
      have a2 := (sA.2.2.2.2.2.1 p (by omega)).2.1
      have a10 := (gw_eq A l dr p).2
      have vi : vp_in (nI p) 16 := vp_in_nI (by omega) (by decide)
      have g10 : (if (A 0 1).testBit p then gwN A l dr p else 0) ≤ 10 := by split <;> omega
      refine bX8_growTaller_95 hv.iv M' _ ?_
      rw [kn, nI_1 p, ix_nI (by omega), k2, hg p hp, nI_add, show (99 : Int32) = nI 99 from rfl, min_if _ _ (by omega) (by omega)]
      refine bq_le _ _ rfl rfl (by omega) (by omega) (fun z => by omega) (fun _ => ⟨vi, vi, vi, ih _ ?_ (fun q hq => by rw [wr_row (by omega)]; exact hg q hq)⟩)
      cases q : (A 0 1).testBit p with
      | false =>
        rw [tl_dead A a2 q]
        have e : min 99 (A 2 p + (if false = true then gwN A l dr p else 0)) = A 2 p := by
          rw [if_neg (by decide)]; exact Nat.min_eq_right a2
        rw [e]
        exact h'.w _ _ _ _ (by omega) (h'.1.rw (r := 2) (by omega) (by omega) p _)
      | true =>
        rw [tl_t q]
        exact h'.w _ _ _ _ (by omega) (h'.1.rw (r := 2) (by omega) (by omega) p _)
  · intro p _ hp ih M' h' hg
    have kn : M' v 7 = nI (A 0 0) := h'.1.1 0 (by decide)
    have kl : M' v 8 = nI (A 0 1) := h'.1.1 1 (by decide)
    have vi : vp_in (nI p) 16 := vp_in_nI (by omega) (by decide)
    refine bX8_growTaller_2 hv.iv hla.ia M' _ ?_
    have e8 : wr M' (v + 8) (ix (nI p)) 0 v 8 = nI (A 0 1) := by rw [wr_row (by omega)]; exact kl
    rw [kn, e8, nI_1 p, ix_nI (by omega)]
    have hW := h'.w A (v + 8) p 0 (by omega) (h'.1.cg (wr_row (by omega)) (fun r q1 q2 => wr_row (by omega)))
    have gW : ∀ q, q < p → wr M' (v + 8) p 0 (v + 8) q = nI (if (A 0 1).testBit q then gwN A l dr q else 0) := fun q hq => by rw [wr_el (by omega)]; exact hg q hq
    have e0 : wr M' (v + 8) p 0 (v + 8) p = 0 := wr_same _ _ _ _
    generalize wr M' (v + 8) p 0 = M1 at hW gW e0
    refine bq_le _ _ rfl rfl (by omega) (by omega) (fun z => by omega) (fun _ => ⟨vi, bq_has _ p rfl rfl (by omega) (by omega) (fun q => ih M1 hW (fun x hx => ?_)) (fun q => ?_)⟩)
    · by_cases z : x = p
      · rw [z, e0, q]; rfl
      · exact gW x (by omega)
    · refine (c_tellSwearer (hv.lt _) sA hW.1 (show p < 16 by omega)).mono (fun M2 h2 => ⟨vi, ?_⟩)
      obtain ⟨h2', fe⟩ := hW.told (by omega) hy h2
      have k1 : M2 (v + 1) p = nI (A 1 p) := h2'.1.2 1 p (by decide) (by decide) (show p < 16 by omega)
      have k3 : M2 (v + 3) p = nI (A 3 p) := h2'.1.2 3 p (by decide) (by decide) (show p < 16 by omega)
      have wA := sA.2.2.2.2.2.1 p (by omega)
      rw [k1, k3]
      have fin : ∀ e : Nat, e = (if A 1 p = 2 ∧ A 3 p < 20 then 1 else 0) → AX8_growTaller (d + 3) (fun r M' => r = none ∧ YI M0 v la y dr M' (tlTo A l dr (A 0 0))) 63 [lR v, lR la, lI (nI p), none] [.int (nI e)] M2 := by
        intro e he
        refine bX8_growTaller_63 hv.iv hla.ia M2 _ _ ((c_firstWorth (g := 103) (most := 9) hla.ia (hv.c _).1 (hv.c _).2 (by omega) (h2'.lc hv hla hL) hl (Or.inl rfl) (by decide)).mono (fun r M3 hr => ⟨vi, ?_⟩))
        obtain ⟨rfl, h3⟩ := hr
        rw [fwL_cg hl (Or.inl rfl) fe, he, ← (gw_eq A l dr p).1, nI_1 p, ix_nI (by omega)]
        have h3' := h2'.off (by omega) hla h3
        refine ih _ (h3'.w A (v + 8) p _ (by omega) (h3'.1.cg (wr_row (by omega)) (fun r q1 q2 => wr_row (by omega)))) (fun x hx => ?_)
        by_cases z : x = p
        · rw [z, wr_same, if_pos q]
        · rw [wr_el z, h3 (v + 8) (by omega), h2.2.2 (v + 8) (by omega)]
          exact gW x (by omega)
      exact bq_ne _ 2 rfl rfl (by omega) (by omega) (fun z => bX8_growTaller_62 hv.iv hla.ia M2 _ (fin 0 (by rw [if_neg (fun w => z w.1)]))) (fun z => ⟨vi, bq_le 20 _ rfl rfl (by omega) (by omega) (fun z2 => bX8_growTaller_62 hv.iv hla.ia M2 _ (fin 0 (by rw [if_neg (fun w => by omega)]))) (fun z2 => fin 1 (by rw [if_pos ⟨z, z2⟩]))⟩)
theorem c_whoDies {B : VD} (hv : vS v) (hla : aS la) (sB : WFV B) (hl : WFL l) (hL : LC la M0 l) (hy : B 0 3 = y) (h : YI M0 v la y dr M B) : AMi (d + 3) iX8_whoDies [.ref v, .ref la] M (fun r M' => r = nI (dyTo B l dr (B 0 0)) ∧ YI M0 v la y dr M' B) := by
  have hn := sB.1
  have hlv := sB.live
  have n1 := hv.n
  have n2 := hla.n
  refine eX8_whoDies M (bX8_whoDies_0 hv.iv hla.ia M ?_)
  refine up_loop (P := fun p => ∀ M', YI M0 v la y dr M' B → AX8_whoDies (d + 3) (fun r M' => ∃ x, r = some x ∧ x = nI (dyTo B l dr (B 0 0)) ∧ YI M0 v la y dr M' B) 4 [lR v, lR la, lI (nI (dyTo B l dr p)), lI (nI p)] [] M') (B 0 0) 0 (by omega) ?_ ?_ M h
  · intro M' h'
    have kn : M' v 7 = nI (B 0 0) := h'.1.1 0 (by decide)
    refine bX8_whoDies_4 hv.iv hla.ia M' _ _ ?_
    rw [kn]
    exact bq_le _ _ rfl rfl (by omega) (by omega) (fun _ => ⟨_, rfl, rfl, h'⟩) (fun z => by omega)
  · intro p _ hp ih M' h'
    have kn : M' v 7 = nI (B 0 0) := h'.1.1 0 (by decide)
    have kl : M' v 8 = nI (B 0 1) := h'.1.1 1 (by decide)
    refine bX8_whoDies_4 hv.iv hla.ia M' _ _ ?_
    rw [kn, kl, nI_1 p, or1 (by omega)]
    refine bq_le _ _ rfl rfl (by omega) (by omega) (fun z => by omega) (fun _ => bq_has _ p rfl rfl (by omega) (by omega) (fun q => ?_) (fun q => ?_))
    · have e : dyTo B l dr (p + 1) = dyTo B l dr p := by rw [dyTo, q]; rfl
      have := ih M' h'
      rw [e] at this
      exact this
    · refine (c_tellSwearer (hv.lt _) sB h'.1 (show p < 16 by omega)).mono (fun M2 h2 => ?_)
      obtain ⟨h2', fe⟩ := h'.told (by omega) hy h2
      refine (c_anyHolds (g := 120) hla.ia (hv.c _).1 (hv.c _).2 (by omega) (h2'.lc hv hla hL) hl (by omega)).mono (fun r M3 hr => ?_)
      obtain ⟨rfl, h3⟩ := hr
      rw [anyL_cg hl fe]
      have := ih M3 (h2'.off (by omega) hla h3)
      cases hE : anyL l (f1S B p dr) 120 with
      | false =>
        have e : dyTo B l dr (p + 1) = dyTo B l dr p := by rw [dyTo, hE, Bool.and_false]; rfl
        rw [e] at this
        exact ⟨fun _ => this, fun z => absurd rfl z⟩
      | true =>
        have e : dyTo B l dr (p + 1) = dyTo B l dr p ||| 2 ^ p := by rw [dyTo, q, hE]; rfl
        rw [e] at this
        exact ⟨fun z => absurd z (by decide), fun _ => this⟩
def ZV (v : Nat) (M : Mem) : Prop := ∀ j, 6 ≤ j → j ≤ 9 → M (v + 10) j = 0
theorem c_passYear (hv : vS v) (hla : aS la) (hs : WFV s) (hl : WFL l) (h : VC v M s) (hL : LC la M l) (hz : ZV v M) : AMi (d + 4) iX8_passYear [.ref v, .ref la, .int (nI dr)] M (fun r M' => r = nI (cnt (dyN s l dr)) ∧ VC v M' (pyS s l dr) ∧ ZV v M' ∧ YF v la M M') := by
  have hn := hs.1
  have n1 := hv.n
  have n2 := hla.n
  have ky : M v 10 = nI (s 0 3) := h.1 3 (by decide)
  refine eX8_passYear M _ (bX8_passYear_0 hv.iv hla.ia M _ ?_)
  rw [ky]
  refine eX4_tellTime _ _ _ (bX4_tellTime_0 (hv.t _) _ _ _ ⟨rfl, ?_⟩)
  have h0 : YI M v la (s 0 3) dr (wr (wr M (v + 9 + 1) 10 (nI (s 0 3))) (v + 9 + 1) 11 (nI dr)) s := by
    refine ⟨h.cg (by rw [wr_row (by omega), wr_row (by omega)]) (fun r q1 q2 => by rw [wr_row (by omega), wr_row (by omega)]), fun j q1 q2 => ?_, ?_, wr_same _ _ _ _, fun k q1 q2 => by rw [wr_row (by omega), wr_row (by omega)]⟩
    · show wr (wr M (v + 9 + 1) 10 (nI (s 0 3))) (v + 9 + 1) 11 (nI dr) (v + 9 + 1) j = 0
      rw [wr_el (by omega), wr_el (by omega)]; exact hz j q1 q2
    · show wr (wr M (v + 9 + 1) 10 (nI (s 0 3))) (v + 9 + 1) 11 (nI dr) (v + 9 + 1) 10 = nI (s 0 3)
      rw [wr_el (by omega)]; exact wr_same _ _ _ _
  refine (c_growOlder (d := d + 2) hv hs h0).mono (fun M1 h1 => ?_)
  have sA := ag_wf hs (s 0 0)
  refine (c_growTaller hv hla sA hl hL (ag_at (by omega)) h1).mono (fun M2 h2 => ?_)
  have sB : WFV (gtS s l dr) := tl_wf sA _
  have h2 : YI M v la (s 0 3) dr M2 (gtS s l dr) := h2
  refine (c_whoDies hv hla sB hl hL (show gtS s l dr 0 3 = s 0 3 from rfl) h2).mono (fun r M3 hr => ?_)
  obtain ⟨rfl, h3⟩ := hr
  have kl : M3 v 8 = nI (s 0 1) := h3.1.1 1 (by decide)
  have ky : M3 v 10 = nI (s 0 3) := h3.1.1 3 (by decide)
  have y9 := hs.2.2.2.1
  have dl := dy_lt (s := gtS s l dr) (l := l) (dr := dr) (s 0 0) hn
  have dl2 : dyTo (gtS s l dr) l dr (s 0 0) < 65536 := Nat.lt_of_lt_of_le dl (Nat.pow_le_pow_right (by omega) hn)
  show _
  have e00 : dyTo (gtS s l dr) l dr (gtS s l dr 0 0) = dyN s l dr := rfl
  have dl3 : dyN s l dr < 65536 := dl2
  rw [e00, kl, andn, wr_el (show (10 : Nat) ≠ 8 by omega), ky, nI_1 (s 0 3), show (999 : Int32) = nI 999 from rfl, min_if _ _ (by omega) (by omega), bc_nI dl3]
  have hw1 := h3.w _ v 8 (nI (sd (s 0 1) (dyN s l dr))) (by omega) (h3.1.sc (i := 1) (by omega) _)
  have hw2 := hw1.w _ v 10 (nI (min 999 (s 0 3 + 1))) (by omega) (hw1.1.sc (i := 3) (by omega) _)
  exact ⟨_, rfl, rfl, hw2.1, hw2.2.1, hw2.2.2.2.2⟩
end YC
