/-- one call on both objects: the same answer, and again one state -/
def Op (S : SS) (ic im : MI) (av : List Value) : Prop := ∃ (x : Int32) (S' : SS), WF S' ∧ (∀ M, RC M S → AMi 60 ic (.ref 0 :: av) M (fun r M' => r = x ∧ FrM M M' ∧ RC M' S')) ∧ (∀ M, RM M S → AMi 60 im (.ref 77 :: av) M (fun r M' => r = x ∧ FrC M M' ∧ RM M' S'))
def setS (S : SS) (i : Nat) (v : VD) : SS := va_up S i v
theorem setS_same (S : SS) (i : Nat) (v : VD) : setS S i v i = v := if_pos rfl
theorem setS_ne {S : SS} {i j : Nat} {v : VD} (h : j ≠ i) : setS S i v j = S j := if_neg h
theorem in_nI {x : Int32} (a b : Nat) (hab : a ≤ b) (hb : b < 2 ^ 31) (h : ¬ inV x (nI a) (nI b) = 0) : a ≤ ix x ∧ ix x ≤ b ∧ x = nI (ix x) := by
  obtain ⟨h1, h2⟩ := inV_1.mp h
  obtain ⟨n, g1, g2, rfl⟩ := le_nI hb hab h1 h2
  rw [ix_nI (by omega)]
  exact ⟨g1, g2, rfl⟩
theorem out_nI {a b x : Nat} (hx : x < 2 ^ 31) (hb : b < 2 ^ 31) (ha : a < 2 ^ 31) (h1 : a ≤ x) (h2 : x ≤ b) : ¬ inV (nI x) (nI a) (nI b) = 0 := inV_1.mpr ⟨(nI_leI ha hx).mpr h1, (nI_leI hx hb).mpr h2⟩
theorem isP_nI {n : Nat} {x : Int32} (hn : n < 2 ^ 31) (h : ¬ isPV (nI n) x = 0) : ix x < n ∧ x = nI (ix x) := by
  obtain ⟨p, hp, rfl⟩ := (isPV_nI hn).mp (isPV_1.mp h)
  rw [ix_nI (by omega)]
  exact ⟨hp, rfl⟩
theorem liv_nI {n l : Nat} {x : Int32} (hn : n ≤ 16) (hl : l < 2 ^ 31) (h : ¬ livV (nI n) (nI l) x = 0) : ix x < n ∧ l.testBit (ix x) = true ∧ x = nI (ix x) := by
  obtain ⟨h1, h2, h3⟩ := livV_1.mp h
  obtain ⟨p, hp, rfl⟩ := (isPV_nI (by omega)).mp ⟨h1, h2⟩
  rw [ix_nI (by omega)]
  exact ⟨hp, (has1 hl (by omega)).mp h3, rfl⟩
section CT
variable {d : Nat} {M : Mem} {s : VD} {v : Nat}
theorem c_heightOf (h_v : isV v) (hs : WFV s) (h : VC v M s) {p : Nat} (hp : p < 16) : AMp (d + 1) iX8_heightOf [.ref v, .int (nI p)] M (nI (tallS s p)) := by
  have k1 : ∀ j, j < 16 → M (v + 1) j = nI (s 1 j) := fun j hj => h.2 1 j (by decide) (by decide) hj
  have k2 : ∀ j, j < 16 → M (v + 2) j = nI (s 2 j) := fun j hj => h.2 2 j (by decide) (by decide) hj
  have k4 : ∀ j, j < 16 → M (v + 4) j = nI (s 4 j) := fun j hj => h.2 4 j (by decide) (by decide) hj
  have k5 : ∀ j, j < 16 → M (v + 5) j = nI (s 5 j) := fun j hj => h.2 5 j (by decide) (by decide) hj
  have kn : M v 7 = nI (s 0 0) := h.1 0 (by decide)
  have w := hs.2.2.2.2.2.1 p hp
  have hn := hs.1
  have hi : ix (nI p) = p := ix_nI (by omega)
  have fin : ∀ q, q < 16 → asS s p = q → AX8_heightOf (d + 1) (fun r M' => some (nI (tallS s p)) = r ∧ M = M') 44 [lR v, none, lI (nI q), none] [] M := by
    intro q hq e
    refine bX8_heightOf_44 h_v M _ ⟨vp_in_nI hq (by decide), vp_in_nI hq (by decide), ?_, rfl⟩
    rw [ix_nI (by omega), k2 q hq, k4 q hq, nI_add, tallS, e]
  have vi : vp_in (nI p) 16 := vp_in_nI hp (by decide)
  refine eX8_heightOf M _ (bX8_heightOf_0 h_v M _ ?_)
  rw [hi, k1 p hp, k5 p hp, kn]
  refine ⟨vi, bq_ne _ 4 rfl rfl (by omega) (by decide) (fun a => fin p hp (by rw [asS, if_neg (fun z => a z.1)])) (fun a => ⟨vi, fun b => fin p hp ?_, fun b => bq_eq _ _ rfl rfl (by omega) (by omega) (fun c => fin p hp (by rw [asS, if_neg (fun z => z.2.2.1 c)])) (fun c => ?_)⟩)⟩
  · rw [asS, if_neg (fun z => isPV_0.mp b ((isPV_nI (by omega)).mpr ⟨_, z.2.1, rfl⟩))]
  · have b2 : s 5 p < s 0 0 := by
      have := isP_nI (by omega) b
      rw [ix_nI (by omega)] at this
      exact this.1
    have w2 := hs.2.2.2.2.2.1 (s 5 p) (by omega)
    refine ⟨vp_in_nI (by omega) (by decide), ?_⟩
    rw [ix_nI (n := s 5 p) (by omega), k1 _ (by omega)]
    exact bq_eq _ 4 rfl rfl (by omega) (by decide) (fun e => fin p hp (by rw [asS, if_neg (fun z => z.2.2.2 e)])) (fun e => fin _ (by omega) (by rw [asS, if_pos ⟨a, b2, c, e⟩]))
/-- the height of the tallest so far, 0: nobody -/
def thTo (s : VD) (k : Nat) : Nat := if topTo s k = 31 then 0 else tallS s (topTo s k)
theorem c_tallestOne (h_v : isV v) (hs : WFV s) (h : VC v M s) : AMp (d + 2) iX8_tallestOne [.ref v] M (tvI (topS s)) := by
  have kn : M v 7 = nI (s 0 0) := h.1 0 (by decide)
  have kl : M v 8 = nI (s 0 1) := h.1 1 (by decide)
  have hn := hs.1
  have hl := hs.live
  refine eX8_tallestOne M (bX8_tallestOne_0 h_v M ?_)
  refine up_loop (P := fun k => AX8_tallestOne (d + 2) (fun r M' => some (tvI (topS s)) = r ∧ M = M') 6 [lR v, lI (tvI (topTo s k)), lI (nI (thTo s k)), lI (nI k)] [] M) (s 0 0) 0 (by omega) ?_ ?_
  · refine bX8_tallestOne_6 h_v M _ _ _ ?_
    rw [kn, kl]
    exact bq_le _ _ rfl rfl (by omega) (by omega) (fun _ => ⟨rfl, rfl⟩) (fun q => by omega)
  · intro k _ hk ih
    refine bX8_tallestOne_6 h_v M _ _ _ ?_
    rw [kn, kl, nI_1]
    have hb := topTo_lt s k
    have t1 := tall_lt hs (p := k) (by omega)
    have t0 := tall_pos hs hk
    have tb : thTo s k ≤ 108 := by
      rw [thTo]; split
      · omega
      · exact tall_lt hs (by omega)
    refine bq_le _ _ rfl rfl (by omega) (by omega) (fun q => by omega) (fun _ => bq_has _ k rfl rfl (by omega) (by omega) (fun a => ?_) (fun a => (c_heightOf h_v hs h (by omega)).i (bq_le _ _ rfl rfl (by omega) (by omega) (fun c => ?_) (fun c => (c_heightOf h_v hs h (by omega)).i ?_))))
    · have e : topTo s (k + 1) = topTo s k := by rw [topTo, if_neg (fun z => by rw [a] at z; cases z.1)]
      rw [thTo, e] at ih; exact ih
    · have e : topTo s (k + 1) = topTo s k := by
        rw [topTo, if_neg]
        rintro ⟨-, z | z⟩
        · rw [thTo, if_pos z] at c; omega
        · rw [thTo] at c; split at c <;> omega
      rw [thTo, e] at ih; exact ih
    · have e : topTo s (k + 1) = k := by
        rw [topTo, if_pos]
        refine ⟨a, ?_⟩
        by_cases z : topTo s k = 31
        · exact Or.inl z
        · rw [thTo, if_neg z] at c; exact Or.inr c
      rw [thTo, e, if_neg (by omega), tvI_n (b := k) (by omega)] at ih; exact ih
end CT
/-- a person more -/
def addP (s : VD) (a b c e : Nat) : VD := wrN (wrN (wrN (wrN (wrN (wrN (wrN s 1 (s 0 0) a) 2 (s 0 0) b) 3 (s 0 0) c) 4 (s 0 0) 0) 5 (s 0 0) e) 0 1 (s 0 1 ||| 2 ^ s 0 0)) 0 0 (s 0 0 + 1)
theorem addP_wf {s : VD} (h : WFV s) {a b c e : Nat} (hn : s 0 0 < 16) (ha : a ≤ 4) (hb : 1 ≤ b ∧ b ≤ 99) (hc : c ≤ 99) (he : e ≤ 999) : WFV (addP s a b c e) := by
  obtain ⟨h1, h2, h3, h4, h5, h6, h7, h8⟩ := h
  have e0 : addP s a b c e 0 0 = s 0 0 + 1 := rfl
  have e1 : addP s a b c e 0 1 = s 0 1 ||| 2 ^ s 0 0 := rfl
  have hp : 2 ^ s 0 0 < 2 ^ (s 0 0 + 1) := p2_lt (by omega)
  refine ⟨by rw [e0]; omega, by rw [e0, e1]; exact or_lt (by omega) hp, h3, h4, h5, fun j hj => ?_, fun j hj => ?_, fun o ho => ?_⟩
  · have := h6 j hj
    by_cases z : j = s 0 0
    · subst z
      simp [addP, wrN]
      omega
    · simp [addP, wrN, z]
      omega
  · rw [e0] at hj
    by_cases z : j = s 0 0
    · subst z
      simp [addP, wrN]
      omega
    · have := h7 j (by omega)
      simp [addP, wrN, z]
      omega
  · have q := h8 o ho
    rw [e0]
    refine ⟨?_, ?_, q.2.2⟩
    · exact Nat.lt_succ_of_lt q.1
    · exact Nat.lt_trans q.2.1 hp
theorem WF.v0 {S : SS} (h : WF S) {v : VD} (hv : WFV v) : WF (setS S 0 v) := ⟨hv, h.2⟩
theorem KM.s0 {M : Mem} {S : SS} {v : VD} (h : KM M S) : KM M (setS S 0 v) := h
theorem op_person {S : SS} (hW : WF S) (x1 x2 x3 x4 : Int32) : Op S iX9_person iX10_person [.int x1, .int x2, .int x3, .int x4] := by
  have hs := hW.1
  have hn := hs.1
  by_cases hc : ¬ inV x1 0 4 = 0 ∧ ¬ inV x2 1 99 = 0 ∧ ¬ inV x3 0 99 = 0 ∧ ¬ inV x4 0 999 = 0 ∧ S 0 0 0 < 16
  · obtain ⟨c1, c2, c3, c4, c5⟩ := hc
    obtain ⟨a1, a2, a3⟩ := in_nI 0 4 (by omega) (by omega) c1
    obtain ⟨b1, b2, b3⟩ := in_nI 1 99 (by omega) (by omega) c2
    obtain ⟨e1, e2, e3⟩ := in_nI 0 99 (by omega) (by omega) c3
    obtain ⟨f1, f2, f3⟩ := in_nI 0 999 (by omega) (by omega) c4
    refine ⟨nI (S 0 0 0), setS S 0 (addP (S 0) (ix x1) (ix x2) (ix x3) (ix x4)), hW.v0 (addP_wf hs c5 a2 ⟨b1, b2⟩ e2 f2), fun M h => ?_, fun M h => ?_⟩
    · obtain ⟨h1, h2, h3, h4, h5, h6, h7⟩ := h
      have kn : M 1 7 = nI (S 0 0 0) := h1.1 0 (by decide)
      have kl : M 1 8 = nI (S 0 0 1) := h1.1 1 (by decide)
      refine eX9_person M _ _ _ _ (bX9_person_0 M _ _ _ _ ⟨fun z => absurd z c1, fun _ => ⟨fun z => absurd z c2, fun _ => ⟨fun z => absurd z c3, fun _ => ⟨fun z => absurd z c4, fun _ => bX9_person_46 M _ _ _ _ _ ⟨fun z => absurd z (by decide), fun _ => ?_⟩⟩⟩⟩⟩)
      rw [kn]
      refine bq_lt _ 16 rfl rfl (by omega) (by decide) (fun _ => ?_) (fun z => by omega)
      refine eX8_addPerson_1 M _ _ _ _ (bX8_addPerson_1_0 M _ _ _ _ ?_)
      have vi : vp_in (M 1 7) 16 := vp_n _ kn c5 (by decide)
      refine ⟨vi, vi, vi, vi, vi, _, rfl, _, rfl, kn, ?_, ?_⟩
      · exact (((((((FrM.rf M).wr _ (by omega)).wr _ (by omega)).wr _ (by omega)).wr _ (by omega)).wr _ (by omega)).wr _ (by omega)).wr _ (by omega)
      · rw [kn, kl, ix_nI (by omega), or1 (by omega), nI_1]
        have g : Fr 1 [2, 3, 4, 5, 6] [7, 8] M _ := ((((((Fr.rf.w 2 (S 0 0 0) x1 (by decide) (by decide)).w 3 (S 0 0 0) x2 (by decide) (by decide)).w 4 (S 0 0 0) x3 (by decide) (by decide)).w 5 (S 0 0 0) 0 (by decide) (by decide)).w 6 (S 0 0 0) x4 (by decide) (by decide)).wo 8 (nI (S 0 0 1 ||| 2 ^ S 0 0 0)) (by decide)).wo 7 (nI (S 0 0 0 + 1)) (by decide)
        have gk : ∀ k, 7 ≤ k → _ := fun k hk => g.1 k (by simp; omega) (by omega)
        have g0 := g.1 0 (by decide) (by decide)
        refine ⟨?_, ⟨by rw [g0]; exact h2.1, fun q => (h2.2 q).cg (gk _ (by omega)) (fun r _ _ => gk _ (by omega))⟩, ?_, ?_, h5.cg (fun r _ => gk _ (by omega)), h6.cg (fun r _ => gk _ (by omega)), h7.cg (gk _ (by omega)) (gk _ (by omega)) (gk _ (by omega))⟩
        · have q := ((((((h1.rw (r := 1) (by decide) (by decide) (S 0 0 0) (ix x1)).rw (r := 2) (by decide) (by decide) (S 0 0 0) (ix x2)).rw (r := 3) (by decide) (by decide) (S 0 0 0) (ix x3)).rw (r := 4) (by decide) (by decide) (S 0 0 0) 0).rw (r := 5) (by decide) (by decide) (S 0 0 0) (ix x4)).sc (i := 1) (by decide) (S 0 0 1 ||| 2 ^ S 0 0 0)).sc (i := 0) (by decide) (S 0 0 0 + 1)
          rw [← a3, ← b3, ← e3, ← f3] at q
          exact q
        · rw [TC, gk 34 (by omega), gk 35 (by omega)]; exact h3
        · rw [GC, g0, gk 76 (by omega)]; exact h4
    · obtain ⟨h1, h2, h3, h4, h5, h6⟩ := h
      have kn : M 77 0 = nI (S 0 0 0) := h1.1 0 (by decide)
      have kl : M 77 1 = nI (S 0 0 1) := h1.1 1 (by decide)
      refine eX10_person M _ _ _ _ (bX10_person_0 M _ _ _ _ ⟨fun z => absurd z c1, fun _ => ⟨fun z => absurd z c2, fun _ => ⟨fun z => absurd z c3, fun _ => ⟨fun z => absurd z c4, fun _ => ?_⟩⟩⟩⟩)
      have vi : vp_in (M 77 0) 16 := vp_n _ kn c5 (by decide)
      refine ⟨fun _ => ⟨vi, vi, vi, vi, vi, _, rfl, ?_, ?_, ?_⟩, fun z => by rw [kn] at z; have := (nI_eq (b := 16) (by omega) (by omega)).mp z; omega⟩
      · rw [kn, nI_1, nI_pred]
      · exact (((((((FrC.rf M).wr _ (by omega)).wr _ (by omega)).wr _ (by omega)).wr _ (by omega)).wr _ (by omega)).wr _ (by omega)).wr _ (by omega)
      · rw [kn, kl, ix_nI (by omega), or1 (by omega), nI_1]
        have g : Fr 77 [78, 79, 80, 81, 82] [0, 1] M _ := ((((((Fr.rf.w 78 (S 0 0 0) x1 (by decide) (by decide)).w 79 (S 0 0 0) x2 (by decide) (by decide)).w 80 (S 0 0 0) x3 (by decide) (by decide)).w 81 (S 0 0 0) 0 (by decide) (by decide)).w 82 (S 0 0 0) x4 (by decide) (by decide)).wo 1 (nI (S 0 0 1 ||| 2 ^ S 0 0 0)) (by decide)).wo 0 (nI (S 0 0 0 + 1)) (by decide)
        refine ⟨?_, KM.fr h2 g rfl rfl, TM.fr h3 g rfl rfl, GM.fr h4 g rfl rfl, LM.fr h5 g rfl, LM.fr h6 g rfl⟩
        have q := ((((((h1.rw (r := 1) (by decide) (by decide) (S 0 0 0) (ix x1)).rw (r := 2) (by decide) (by decide) (S 0 0 0) (ix x2)).rw (r := 3) (by decide) (by decide) (S 0 0 0) (ix x3)).rw (r := 4) (by decide) (by decide) (S 0 0 0) 0).rw (r := 5) (by decide) (by decide) (S 0 0 0) (ix x4)).sc (i := 1) (by decide) (S 0 0 1 ||| 2 ^ S 0 0 0)).sc (i := 0) (by decide) (S 0 0 0 + 1)
        rw [← a3, ← b3, ← e3, ← f3] at q
        exact q
  · refine ⟨-1, S, hW, fun M h => ?_, fun M h => ?_⟩
    · have kn : M 1 7 = nI (S 0 0 0) := h.1.1 0 (by decide)
      have fin : (-1 : Int32) = -1 ∧ FrM M M ∧ RC M S := ⟨rfl, FrM.rf M, h⟩
      have f0 : AX9_person 60 (fun r M' => ∃ x, r = some x ∧ x = -1 ∧ FrM M M' ∧ RC M' S) 45 [lR 0, lI x1, lI x2, lI x3, lI x4, none] [] M := bX9_person_45 M _ _ _ _ (bX9_person_46 M _ _ _ _ _ ⟨fun _ => ⟨_, rfl, fin⟩, fun z => absurd rfl z⟩)
      refine eX9_person M _ _ _ _ (bX9_person_0 M _ _ _ _ ⟨fun z => f0, fun c1 => ⟨fun z => f0, fun c2 => ⟨fun z => f0, fun c3 => ⟨fun z => f0, fun c4 => bX9_person_46 M _ _ _ _ _ ⟨fun z => absurd z (by decide), fun _ => ?_⟩⟩⟩⟩⟩)
      rw [kn]
      exact bq_lt _ 16 rfl rfl (by omega) (by decide) (fun z => absurd ⟨c1, c2, c3, c4, z⟩ hc) (fun z => ⟨_, rfl, fin⟩)
    · have kn : M 77 0 = nI (S 0 0 0) := h.1.1 0 (by decide)
      have fin : (-1 : Int32) = -1 ∧ FrC M M ∧ RM M S := ⟨rfl, FrC.rf M, h⟩
      refine eX10_person M _ _ _ _ (bX10_person_0 M _ _ _ _ ⟨fun z => ⟨_, rfl, fin⟩, fun c1 => ⟨fun z => ⟨_, rfl, fin⟩, fun c2 => ⟨fun z => ⟨_, rfl, fin⟩, fun c3 => ⟨fun z => ⟨_, rfl, fin⟩, fun c4 => ?_⟩⟩⟩⟩)
      refine ⟨fun z => absurd ⟨c1, c2, c3, c4, ?_⟩ hc, fun z => ⟨_, rfl, fin⟩⟩
      rcases Nat.lt_or_ge (S 0 0 0) 16 with q | q
      · exact q
      · exact absurd (by rw [kn, show S 0 0 0 = 16 by omega]; rfl) z
