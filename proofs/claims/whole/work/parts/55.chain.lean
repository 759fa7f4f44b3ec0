/-! CHAIN -/
def nxI (s l : VD) (T : Nat) (W : Nat → Nat) (q : Nat) : Int32 := if q = topS s then -1 else ftI (W q) (ftTo s l T W q 16)
def pthN (s l : VD) (T : Nat) (W : Nat → Nat) (p : Nat) : Nat → Nat
  | 0 => p
  | k + 1 => ftTo s l T W (pthN s l T W p k) 16
section CH
variable {d v la p : Nat} {s l : VD} {M : Mem} {T : Nat} {W : Nat → Nat}
theorem W_dead (hs : WFV s) (hW : ∀ a, W a = eqW s l T W a) {q : Nat} (hd : (s 0 1).testBit q = false) (hq : q < 16) : W q = 1000000000 ∧ ¬ q = topS s := by
  have nt : ¬ q = topS s := fun e => by
    rcases topS_or s with w | ⟨_, w⟩
    · omega
    · rw [← e, hd] at w; cases w
  refine ⟨?_, nt⟩
  rw [W_mn hW nt]
  rcases mn_at (s := s) (l := l) (T := T) W q 16 with h1 | ⟨b, h1, h2⟩
  · exact h1
  · rcases wy_le (s := s) (l := l) (T := T) W q b with h3 | ⟨h3, _⟩
    · exact h2.trans h3
    · have := (EB_t.mp h3).1; rw [hd] at this; cases this
theorem pth_ok (hs : WFV s) (hW : ∀ a, W a = eqW s l T W a) (hp : p < 16) (hf : ¬ W p = 1000000000) : ∀ k, k ≤ W p % 32 → ¬ W (pthN s l T W p k) = 1000000000 ∧ W (pthN s l T W p k) % 32 + k = W p % 32 ∧ pthN s l T W p k < 16
  | 0, _ => ⟨hf, by show W p % 32 + 0 = W p % 32; omega, hp⟩
  | k + 1, h => by
    obtain ⟨h1, h2, h3⟩ := pth_ok hs hW hp hf k (by omega)
    generalize hq : pthN s l T W p k = q at h1 h2 h3
    have e : pthN s l T W p (k + 1) = ftTo s l T W q 16 := by rw [pthN, hq]
    rw [e]
    have nt : ¬ q = topS s := fun w => by rw [w, W_top hW] at h2; omega
    have eW := W_mn hW nt
    rcases ft_at (s := s) (l := l) (T := T) W q 16 with w | ⟨w1, w2, _⟩
    · omega
    · rcases wy_le (s := s) (l := l) (T := T) W q (ftTo s l T W q 16) with w3 | ⟨w3, w4, w5⟩
      · omega
      · have := W_sml hs hW (ftTo s l T W q 16)
        exact ⟨by omega, by omega, w1⟩
theorem pth_nt (hs : WFV s) (hW : ∀ a, W a = eqW s l T W a) (hp : p < 16) (hf : ¬ W p = 1000000000) {k : Nat} (h : k ≤ W p % 32) : pthN s l T W p k = topS s ↔ k = W p % 32 := by
  obtain ⟨h1, h2, h3⟩ := pth_ok hs hW hp hf k h
  constructor
  · intro e; rw [e, W_top hW] at h2; omega
  · intro e
    refine Classical.byContradiction (fun nt => ?_)
    have eW := W_mn hW nt
    rcases mn_at (s := s) (l := l) (T := T) W (pthN s l T W p k) 16 with w | ⟨b, w1, w2⟩
    · omega
    · rcases wy_le (s := s) (l := l) (T := T) W (pthN s l T W p k) b with w3 | ⟨w3, w4, w5⟩
      · omega
      · have := W_sml hs hW b
        omega
theorem c_searchC (hv : vS v) (ha : aS la) (hs : WFV s) (h : STP M v la s l) (hP : PRC M s l) (hT : T < 2 ^ 31) (hp : p < 16) (hW : ∀ a, W a = eqW s l T W a) : AMi (d + 3) iX0_search [.ref 69, .int (nI p), .int (nI T)] M (fun r M' => r = (if W p = 1000000000 then 0 else 1) ∧ M' 69 4 = nI p ∧ (∀ q, q < 16 → CRow M' q (W q) (nxI s l T W q)) ∧ ∀ k, (k < 69 ∨ 72 < k) → M' k = M k) := by
  have hn := hs.1
  obtain ⟨c, u, e1, e2, e3⟩ := h.2.2.1
  have hc := e3.1
  have Wl : ∀ a, W a ≤ 1000000000 := fun a => by have := W_sml hs hW a; omega
  have st : ∀ M' : Mem, (∀ k, (k < 69 ∨ 72 < k) → M' k = M k) → STP M' v la s l ∧ PRC M' s l := fun M' g => ⟨h.cg hv ha (g 62 (by omega)) (g 64 (by omega)) (g 65 (by omega)) (by rw [g 68 (by omega)]) (by rw [g 68 (by omega)]) (fun k hk _ => g k (by omega)), fun a b q => by rw [g 66 (by omega)]; exact hP a b q⟩
  refine eX0_search M _ _ (bX0_search_0 M _ _ ?_)
  have main : ∀ i, i ≤ c → ∀ M' : Mem, M' 69 4 = nI p → (∀ k, (k < 69 ∨ 72 < k) → M' k = M k) → (∀ q, q < 16 → (∃ j, i ≤ j ∧ j < c ∧ u j = q) → CRow M' q (W q) (nxI s l T W q)) → (∀ q, q < 16 → ¬ (∃ j, i ≤ j ∧ j < c ∧ u j = q) → CRow M' q 1000000000 (-1)) → AX0_search (d + 3) (fun r M' => ∃ x, r = some x ∧ x = (if W p = 1000000000 then 0 else 1) ∧ M' 69 4 = nI p ∧ (∀ q, q < 16 → CRow M' q (W q) (nxI s l T W q)) ∧ ∀ k, (k < 69 ∨ 72 < k) → M' k = M k) 43 [lR 69, lI (nI p), lI (nI T), lI (nI i - 1), none] [] M' := by
    intro i
    induction i with
    | zero =>
      intro _ M' k4 g dn un
      have all : ∀ q, q < 16 → CRow M' q (W q) (nxI s l T W q) := by
        intro q hq
        cases lq : (s 0 1).testBit q with
        | true =>
          obtain ⟨j, j1, j2⟩ := e3.2.2.1 q (hs.lt lq) lq
          exact dn q hq ⟨j, by omega, j1, j2⟩
        | false =>
          obtain ⟨w1, w2⟩ := W_dead hs hW lq hq
          have nx : nxI s l T W q = -1 := by rw [nxI, if_neg w2, ftI, if_pos w1]
          rw [w1, nx]
          refine un q hq (fun ⟨j, _, j1, j2⟩ => ?_)
          have := (e3.2.1 j j1).2
          rw [j2, lq] at this
          cases this
      refine bX0_search_43 M' _ _ _ ⟨fun _ => ⟨vp_in_nI hp (by decide), ?_⟩, fun z => absurd (by decide : nI 0 - 1 < (0 : Int32)) z⟩
      rw [ix_nI (by omega), (all p hp).1]
      have := Wl p
      have sz : szN (W p) ≤ 32 := by rw [szN]; split <;> omega
      refine bq_le _ 0 rfl rfl (by omega) (by omega) (fun z => ⟨_, rfl, ?_, k4, all, g⟩) (fun z => ⟨_, rfl, ?_, k4, all, g⟩)
      · by_cases w : W p = 1000000000
        · rw [if_pos w]
        · rw [szN, if_neg w] at z; omega
      · by_cases w : W p = 1000000000
        · rw [szN, if_pos w] at z; omega
        · rw [if_neg w]
    | succ i ih =>
      intro hi M' k4 g dn un
      have ui := e3.2.1 i (by omega)
      have u16 : u i < 16 := by omega
      obtain ⟨hS, hR⟩ := st M' g
      have tp : ¬ topS s = 31 := by
        rcases live_top (s 0 0) ui.1 ui.2 with q | q
        · exact q
        · omega
      have tl : topS s < s 0 0 := by
        rcases topS_or s with q | q
        · exact absurd q tp
        · exact q.1
      have k64 : M' 64 i = nI (u i) := by rw [g 64 (by omega)]; exact e2 i (by omega)
      have vu : vp_in (nI (u i)) 16 := vp_in_nI u16 (by decide)
      refine bX0_search_43 M' _ _ _ ?_
      have em : nI i + (-1) = nI i - 1 := (Int32.sub_eq_add_neg _ _).symm
      rw [nI_pred, ix_nI (n := i) (by omega), k64, hS.2.1, tvI_n tp, em, ix_nI (n := u i) (by omega)]
      refine ⟨fun z => absurd z (Int32.not_lt.mpr (nI_pos' (by omega))), fun _ => ⟨vp_in_nI (by omega) (by decide), bq_ne _ _ rfl rfl (by omega) (by omega) (fun nt => ?_) (fun et => ⟨vu, vu, ?_⟩)⟩⟩
      · have post : ∀ m0 f0, m0 ≤ 1000000000 → CRow M' (u i) m0 (ftI m0 f0) → min m0 (W (u i)) = W (u i) → (¬ W (u i) = 1000000000 → (if W (u i) < m0 then ftTo s l T W (u i) 16 else f0) = ftTo s l T W (u i) 16) → AMv (d + 2) iX0_chooseNext [.ref 69, .int (nI (u i)), .int (nI T)] M' (fun M1 => AX0_search (d + 3) (fun r M' => ∃ x, r = some x ∧ x = (if W p = 1000000000 then 0 else 1) ∧ M' 69 4 = nI p ∧ (∀ q, q < 16 → CRow M' q (W q) (nxI s l T W q)) ∧ ∀ k, (k < 69 ∨ 72 < k) → M' k = M k) 43 [lR 69, lI (nI p), lI (nI T), lI (nI i - 1), none] [] M1) := by
          intro m0 f0 m1 cr mm ff
          refine (c_chooseNext hv ha hs hS hR hT u16 hW (fun q hE => ?_) m1 cr).mono (fun M1 h1 => ?_)
          · have t := EB_t.mp hE
            have hb := (EB_lt hs hE).2
            obtain ⟨j, j1, j2⟩ := e3.2.2.1 q hb t.2.1
            have tt := t.2.2.1
            have ji : i + 1 ≤ j := by
              by_cases z : j = i
              · rw [← j2, z] at tt; omega
              · by_cases z2 : j < i
                · have := e3.2.2.2 j i z2 (by omega); rw [j2] at this; omega
                · omega
            have := dn q (by omega) ⟨j, ji, j1, j2⟩
            exact ⟨this.1, this.2.1⟩
          · obtain ⟨r1, r2, r3⟩ := h1
            rw [← W_mn hW nt, mm] at r1
            have keep : ∀ q, q ≠ u i → ∀ m f, CRow M' q m f → CRow M1 q m f := fun q hq m f w => by
              obtain ⟨w1, w2, w3⟩ := r3 q hq
              exact ⟨w2.trans w.1, fun z => w1.trans (w.2.1 z), w3.trans w.2.2⟩
            refine ih (by omega) M1 (by rw [r2 69 (by omega) (by omega) (by omega)]; exact k4) (fun k hk => (r2 k (by omega) (by omega) (by omega)).trans (g k hk)) (fun q hq ⟨j, j1, j2, j3⟩ => ?_) (fun q hq nj => ?_)
            · by_cases z : q = u i
              · subst z
                refine ⟨r1.1, r1.2.1, ?_⟩
                rw [r1.2.2, nxI, if_neg nt, ftI, ftI]
                by_cases w : W (u i) = 1000000000
                · rw [if_pos w, if_pos w]
                · rw [if_neg w, if_neg w, ff w]
              · refine keep q z _ _ (dn q hq ⟨j, ?_, j2, j3⟩)
                by_cases zz : j = i
                · rw [zz] at j3; exact absurd j3.symm z
                · omega
            · have z : q ≠ u i := fun e => nj ⟨i, Nat.le_refl _, by omega, e.symm⟩
              exact keep q z _ _ (un q hq (fun ⟨j, j1, j2, j3⟩ => nj ⟨j, by omega, j2, j3⟩))
        by_cases pr : ∃ j, i + 1 ≤ j ∧ j < c ∧ u j = u i
        · have cr := dn (u i) u16 pr
          rw [nxI, if_neg nt] at cr
          exact post (W (u i)) _ (Wl _) cr (Nat.min_self _) (fun _ => by rw [if_neg (Nat.lt_irrefl _)])
        · have cr := un (u i) u16 pr
          have wl := Wl (u i)
          exact post 1000000000 0 (Nat.le_refl _) cr (Nat.min_eq_right wl) (fun w => by rw [if_pos (by omega)])
      · have W0 : W (u i) = 0 := by rw [et]; exact W_top hW
        have n1 : nxI s l T W (u i) = -1 := by rw [nxI, if_pos et]
        have k72 : M' 72 (u i) = -1 := by
          by_cases pr : ∃ j, i + 1 ≤ j ∧ j < c ∧ u j = u i
          · rw [(dn (u i) u16 pr).2.2, n1]
          · exact (un (u i) u16 pr).2.2
        have keep : ∀ q, q ≠ u i → ∀ m f, CRow M' q m f → CRow (wr (wr M' 70 (u i) 0) 71 (u i) 1) q m f := fun q hq m f w => by
          refine ⟨?_, fun z => ?_, ?_⟩
          · rw [wr_el hq, wr_row (by omega)]; exact w.1
          · rw [wr_row (by omega), wr_el hq]; exact w.2.1 z
          · rw [wr_row (by omega), wr_row (by omega)]; exact w.2.2
        refine ih (by omega) _ (by rw [wr_row (by omega), wr_row (by omega)]; exact k4) (fun k hk => by rw [wr_row (by omega), wr_row (by omega)]; exact g k hk) (fun q hq ⟨j, j1, j2, j3⟩ => ?_) (fun q hq nj => ?_)
        · by_cases z : q = u i
          · subst z
            rw [W0, n1]
            refine ⟨wr_same _ _ _ _, fun _ => ?_, ?_⟩
            · rw [wr_row (by omega)]; exact wr_same _ _ _ _
            · rw [wr_row (by omega), wr_row (by omega)]; exact k72
          · refine keep q z _ _ (dn q hq ⟨j, ?_, j2, j3⟩)
            by_cases zz : j = i
            · rw [zz] at j3; exact absurd j3.symm z
            · omega
        · have z : q ≠ u i := fun e => nj ⟨i, Nat.le_refl _, by omega, e.symm⟩
          exact keep q z _ _ (un q hq (fun ⟨j, j1, j2, j3⟩ => nj ⟨j, by omega, j2, j3⟩))
  refine up_loop (P := fun q => ∀ M' : Mem, M' 69 4 = nI p → (∀ k, (k < 69 ∨ 72 < k) → M' k = M k) → (∀ x, x < q → M' 71 x = 0 ∧ M' 72 x = -1) → AX0_search (d + 3) (fun r M' => ∃ x, r = some x ∧ x = (if W p = 1000000000 then 0 else 1) ∧ M' 69 4 = nI p ∧ (∀ q, q < 16 → CRow M' q (W q) (nxI s l T W q)) ∧ ∀ k, (k < 69 ∨ 72 < k) → M' k = M k) 7 [lR 69, lI (nI p), lI (nI T), lI (nI q), none] [] M') 16 0 (by omega) ?_ ?_ _ (wr_same _ _ _ _) (fun k hk => wr_row (by omega)) (fun x hx => by omega)
  · intro M' k4 g z
    refine bX0_search_7 M' _ _ _ (bq_le 16 16 rfl rfl (by omega) (by omega) (fun _ => ?_) (fun z => by omega))
    rw [g 62 (by omega), e1]
    refine main c (Nat.le_refl _) M' k4 g (fun q hq ⟨j, j1, j2, _⟩ => by omega) (fun q hq _ => ⟨(z q hq).1, fun w => absurd rfl w, (z q hq).2⟩)
  · intro q _ hq ih M' k4 g z
    have vq : vp_in (nI q) 16 := vp_in_nI hq (by decide)
    refine bX0_search_7 M' _ _ _ ?_
    rw [nI_1 q, ix_nI (by omega)]
    refine bq_le 16 _ rfl rfl (by omega) (by omega) (fun z => by omega) (fun _ => ⟨vq, vq, ih _ (by rw [wr_row (by omega), wr_row (by omega)]; exact k4) (fun k hk => by rw [wr_row (by omega), wr_row (by omega)]; exact g k hk) (fun x hx => ?_)⟩)
    by_cases e : x = q
    · subst e
      exact ⟨by rw [wr_row (by omega)]; exact wr_same _ _ _ _, wr_same _ _ _ _⟩
    · obtain ⟨w1, w2⟩ := z x (by omega)
      exact ⟨by rw [wr_row (by omega), wr_el e]; exact w1, by rw [wr_el e, wr_row (by omega)]; exact w2⟩
theorem c_personAt (hs : WFV s) (hW : ∀ a, W a = eqW s l T W a) (hp : p < 16) (hf : ¬ W p = 1000000000) (h4 : M 69 4 = nI p) (hr : ∀ q, q < 16 → CRow M q (W q) (nxI s l T W q)) {k : Nat} (hk : k < 16) : AMp d iX0_personAt [.ref 69, .int (nI k)] M (if k ≤ W p % 32 then nI (pthN s l T W p k) else -3) := by
  generalize hX : (if k ≤ W p % 32 then nI (pthN s l T W p k) else -3) = X
  refine eX0_personAt M _ (bX0_personAt_0 M _ ?_)
  rw [h4]
  have main : ∀ i, i ≤ k → i ≤ W p % 32 → AX0_personAt d (fun r M' => some X = r ∧ M = M') 7 [lR 69, lI (nI k), lI (nI (pthN s l T W p i)), lI (nI i)] [] M := by
    intro i hi hw
    refine up_loop (P := fun i => i ≤ W p % 32 → AX0_personAt d (fun r M' => some X = r ∧ M = M') 7 [lR 69, lI (nI k), lI (nI (pthN s l T W p i)), lI (nI i)] [] M) k i hi ?_ ?_ hw
    · intro w
      obtain ⟨_, _, p16⟩ := pth_ok hs hW hp hf k w
      refine bX0_personAt_7 M _ _ _ (bq_le _ _ rfl rfl (by omega) (by omega) (fun _ => bX0_personAt_30 M _ ⟨fun _ => ⟨?_, rfl⟩, fun z => absurd z (nI_nm1 (by omega))⟩) (fun z => by omega))
      rw [← hX, if_pos w]
    · intro i _ hik ih w
      obtain ⟨w1, w2, p16⟩ := pth_ok hs hW hp hf i w
      have nt := pth_nt hs hW hp hf w
      refine bX0_personAt_7 M _ _ _ (bq_le _ _ rfl rfl (by omega) (by omega) (fun z => by omega) (fun _ => ⟨fun z => absurd z (nI_nm1 (by omega)), fun _ => ⟨vp_in_nI p16 (by decide), ?_⟩⟩))
      rw [ix_nI (by omega), (hr _ p16).2.2, nI_1 i]
      by_cases e : i = W p % 32
      · have n1 : nxI s l T W (pthN s l T W p i) = -1 := by rw [nxI, if_pos (nt.mpr e)]
        rw [n1]
        have b30 : AX0_personAt d (fun r M' => some X = r ∧ M = M') 30 [none, none, lI (-1), none] [] M := bX0_personAt_30 M _ ⟨fun z => absurd rfl z, fun _ => ⟨by rw [← hX, if_neg (by omega)], rfl⟩⟩
        exact bX0_personAt_7 M _ _ _ ⟨fun _ => b30, fun _ => ⟨fun _ => b30, fun z => absurd rfl z⟩⟩
      · have n1 : nxI s l T W (pthN s l T W p i) = nI (pthN s l T W p (i + 1)) := by rw [nxI, if_neg (fun q => e (nt.mp q)), ftI, if_neg w1]; rfl
        rw [n1]
        exact ih (by omega)
  exact main 0 (by omega) (by omega)
end CH
