theorem nI_inj32 {a b : Nat} (ha : a < 2 ^ 32) (hb : b < 2 ^ 32) : nI a = nI b ↔ a = b := by
  constructor
  · intro e
    have := congrArg (fun x : Int32 => x.toBitVec.toNat) e
    simp only [pk_tn ha, pk_tn hb] at this
    exact this
  · rintro rfl; rfl
theorem sd_mask {n m : Nat} : sd n (2 ^ m - 1) = 0 ↔ n < 2 ^ m := by
  constructor
  · intro h
    apply lt_of_bits
    intro i hi
    rcases Nat.lt_or_ge i m with q | q
    · exact q
    · have e := sd_bit n (2 ^ m - 1) i
      rw [h, hi, Nat.testBit_two_pow_sub_one] at e
      simp at e
      omega
  · intro h
    apply Nat.eq_of_testBit_eq
    intro i
    rw [sd_bit, Nat.zero_testBit, Nat.testBit_two_pow_sub_one]
    cases hb : n.testBit i with
    | false => rfl
    | true => have := bit_lt h hb; simp [this]
theorem sub1_nI {n : Nat} (h : 1 ≤ n) : nI n - 1 = nI (n - 1) := by
  have := pk_sub (a := n) (b := 1) h
  exact this
/-- the groups' rows of the state -/
def addG (v : VD) (x : Nat) : VD := wrN (wrN v 2 (v 0 2) x) 0 2 (v 0 2 + 1)
theorem op_found {S : SS} (hW : WF S) (x1 : Int32) : Op S iX9_found iX10_found [.int x1] := by
  have hs := hW.1
  have hm := hs.2.2.1
  have hg := hW.2.2.2.2.2.1
  have hpw : 2 ^ S 0 0 2 ≤ 4096 := Nat.pow_le_pow_right (by omega) hm
  have hp1 : 1 ≤ 2 ^ S 0 0 2 := Nat.one_le_two_pow
  have e1 : (1 : Int32) <<< (nI (S 0 0 2) &&& 31) = nI (2 ^ S 0 0 2) := shl1 _ (by omega)
  obtain ⟨n, hn, rfl⟩ := wb_of32 x1
  have em : nI n &&& ((nI (2 ^ S 0 0 2) - 1) ^^^ (-1)) = 0 ↔ n < 2 ^ S 0 0 2 := by
    rw [sub1_nI hp1, andn, ← sd_mask, show (0 : Int32) = nI 0 from rfl, nI_inj32 (Nat.lt_of_le_of_lt (sd_le _ _) hn) (by omega)]
  have ez : nI n = 0 ↔ n = 0 := by rw [show (0 : Int32) = nI 0 from rfl, nI_inj32 hn (by omega)]
  by_cases hc : n < 2 ^ S 0 0 2 ∧ ¬ n = 0 ∧ S 4 0 2 < 12
  · obtain ⟨c1, c2, c3⟩ := hc
    refine ⟨nI (S 4 0 2 + 1), setS S 4 (addG (S 4) n), ?_, fun M h => ?_, fun M h => ?_⟩
    · obtain ⟨w1, w2, w3, w4, w5, w6, w7, w8, w9⟩ := hW
      refine ⟨w1, w2, w3, w4, w5, (show S 4 0 2 + 1 ≤ 12 by omega), fun j hj => ?_, w8, w9⟩
      have hj : j < S 4 0 2 + 1 := hj
      show 0 < addG (S 4) n 2 j ∧ addG (S 4) n 2 j < 4096
      by_cases z : j = S 4 0 2
      · subst z; simp [addG, wrN]; omega
      · have := w7 j (by omega); simp [addG, wrN, z]; omega
    · obtain ⟨h1, h2, h3, h4, h5, h6, h7⟩ := h
      have km : M 1 9 = nI (S 0 0 2) := h1.1 2 (by decide)
      refine eX9_found M _ (bX9_found_0 M _ ?_)
      rw [km, e1, em, ez, h4.1]
      refine ⟨fun z => absurd c1 z, fun _ => ⟨fun z => absurd z c2, fun _ => bq_lt _ 12 rfl rfl (by omega) (by omega) (fun _ => ⟨vp_in_nI c3 (by decide), _, rfl, by rw [nI_1], ((FrM.rf M).wr _ (by omega)).wr _ (by omega), ?_⟩) (fun z => by omega)⟩⟩
      rw [ix_nI (by omega), nI_1]
      have gk : ∀ k, 1 ≤ k → k < 76 → wr (wr M 76 (S 4 0 2) (nI n)) 0 12 (nI (S 4 0 2 + 1)) k = M k := fun k a b => by rw [wr_row (by omega), wr_row (by omega)]
      refine ⟨h1.cg (gk _ (by omega) (by omega)) (fun r _ _ => gk _ (by omega) (by omega)), ⟨?_, fun q => (h2.2 q).cg (gk _ (by omega) (by omega)) (fun r _ _ => gk _ (by omega) (by omega))⟩, ?_, ⟨?_, fun j hj => ?_⟩, h5.cg (fun r _ => gk _ (by omega) (by omega)), h6.cg (fun r _ => gk _ (by omega) (by omega)), h7.cg (gk _ (by omega) (by omega)) (gk _ (by omega) (by omega)) (gk _ (by omega) (by omega))⟩
      · rw [wr_el (by decide), wr_row (by decide)]; exact h2.1
      · rw [TC, gk 34 (by omega) (by omega), gk 35 (by omega) (by omega)]; exact h3
      · rw [wr_same]; rfl
      · have hj : j < S 4 0 2 + 1 := hj
        rw [wr_row (by decide)]
        show _ = nI (addG (S 4) n 2 j)
        by_cases z : j = S 4 0 2
        · subst z; rw [wr_same]; simp [addG, wrN]
        · rw [wr_el z, h4.2 j (by omega)]; simp [addG, wrN, z]
    · obtain ⟨h1, h2, h3, h4, h5, h6⟩ := h
      have km : M 77 34 = nI (S 0 0 2) := h1.1 2 (by decide)
      refine eX10_found M _ (bX10_found_0 M _ ?_)
      rw [km, e1, h4.1]
      refine bq_lt n 1 rfl rfl (by omega) (by omega) (fun z => by omega) (fun _ => bq_le _ _ rfl rfl (by omega) (by omega) (fun z => by omega) (fun _ => bq_ne _ 12 rfl rfl (by omega) (by omega) (fun _ => ⟨vp_in_nI c3 (by decide), _, rfl, by rw [nI_1], ((FrC.rf M).wr _ (by omega)).wr _ (by omega), ?_⟩) (fun z => by omega)))
      rw [ix_nI (by omega), nI_1]
      have g : Fr 77 [110] [50] M (wr (wr M 110 (S 4 0 2) (nI n)) 77 50 (nI (S 4 0 2 + 1))) := (Fr.rf.w 110 _ _ (by decide) (by decide)).wo 50 _ (by decide)
      refine ⟨VM.fr h1 g rfl rfl, KM.fr h2 g rfl rfl, TM.fr h3 g rfl rfl, ⟨?_, fun j hj => ?_⟩, LM.fr h5 g rfl, LM.fr h6 g rfl⟩
      · rw [wr_same]; rfl
      · have hj : j < S 4 0 2 + 1 := hj
        rw [wr_row (by decide)]
        show _ = nI (addG (S 4) n 2 j)
        by_cases z : j = S 4 0 2
        · subst z; rw [wr_same]; simp [addG, wrN]
        · rw [wr_el z, h4.2 j (by omega)]; simp [addG, wrN, z]
  · refine ⟨-1, S, hW, fun M h => ?_, fun M h => ?_⟩
    · have km : M 1 9 = nI (S 0 0 2) := h.1.1 2 (by decide)
      refine eX9_found M _ (bX9_found_0 M _ ?_)
      rw [km, e1, em, ez, h.2.2.2.1.1]
      exact ⟨fun z => ⟨_, rfl, rfl, FrM.rf M, h⟩, fun c1 => ⟨fun z => ⟨_, rfl, rfl, FrM.rf M, h⟩, fun c2 => bq_lt _ 12 rfl rfl (by omega) (by omega) (fun z => absurd ⟨c1, c2, z⟩ hc) (fun z => ⟨_, rfl, rfl, FrM.rf M, h⟩)⟩⟩
    · have km : M 77 34 = nI (S 0 0 2) := h.1.1 2 (by decide)
      have fin : ∃ x : Int32, some (-1 : Int32) = some x ∧ x = -1 ∧ FrC M M ∧ RM M S := ⟨_, rfl, rfl, FrC.rf M, h⟩
      refine eX10_found M _ (bX10_found_0 M _ ?_)
      rw [km, e1, h.2.2.2.1.1]
      refine ⟨fun z => fin, fun z1 => ⟨fun z => fin, fun z2 => bq_ne _ 12 rfl rfl (by omega) (by omega) (fun z => absurd ?_ hc) (fun z => fin)⟩⟩
      have h0 : ¬ nI n < 0 := fun q => z1 (by
        rw [Int32.lt_iff_toInt_lt] at q ⊢
        have e0 : (0 : Int32).toInt = 0 := by decide
        have e2 : (1 : Int32).toInt = 1 := by decide
        omega)
      obtain ⟨m, hm1, hm2⟩ := nI_of h0
      have := (nI_inj32 hn (by omega)).mp hm2
      subst this
      rw [show (1 : Int32) = nI 1 from rfl, nI_ltI hm1 (show (1 : Nat) < 2 ^ 31 by omega)] at z1
      rw [nI_leI (by omega) hm1] at z2
      exact ⟨by omega, by omega, by omega⟩
/-- whether a set explains the first k groups -/
def expl (g : Nat → Nat) (x : Nat) : Nat → Bool
  | 0 => true
  | k + 1 => expl g x k && decide (¬ g k &&& x = 0)
theorem expl_all {g : Nat → Nat} {x : Nat} : ∀ {k : Nat}, expl g x k = true ↔ ∀ j, j < k → ¬ g j &&& x = 0
  | 0 => ⟨fun _ j h => by omega, fun _ => rfl⟩
  | k + 1 => by
    rw [expl, Bool.and_eq_true, expl_all, decide_eq_true_eq]
    constructor
    · rintro ⟨h1, h2⟩ j hj
      by_cases z : j = k
      · rw [z]; exact h2
      · exact h1 j (by omega)
    · intro h; exact ⟨fun j hj => h j (by omega), h k (by omega)⟩
theorem and_z {a b : Nat} (ha : a < 4096) : nI a &&& nI b = 0 ↔ a &&& b = 0 := by
  rw [fa_and, show (0 : Int32) = nI 0 from rfl, nI_inj32 (Nat.lt_of_le_of_lt Nat.and_le_left (by omega)) (by omega)]
theorem c_explains {d : Nat} {M : Mem} {S : SS} (hW : WF S) (h : GM M S) {x : Nat} : AMp d iX10_explains [.ref 77, .int (nI x)] M (if expl (S 4 2) x (S 4 0 2) then 1 else 0) := by
  have hg := hW.2.2.2.2.2.1
  refine eX10_explains M _ (bX10_explains_0 M _ ?_)
  refine up_loop (P := fun k => expl (S 4 2) x k = true → AX10_explains d (fun r M' => some (if expl (S 4 2) x (S 4 0 2) then 1 else 0) = r ∧ M = M') 2 [lR 77, lI (nI x), lI (nI k)] [] M) (S 4 0 2) 0 (by omega) ?_ ?_ rfl
  · intro e
    refine bX10_explains_2 M _ _ ?_
    rw [h.1]
    exact bq_le _ _ rfl rfl (by omega) (by omega) (fun _ => ⟨by rw [if_pos e], rfl⟩) (fun z => by omega)
  · intro k _ hk ih e
    refine bX10_explains_2 M _ _ ?_
    rw [h.1]
    refine bq_le _ _ rfl rfl (by omega) (by omega) (fun z => by omega) (fun _ => ⟨vp_in_nI (by omega) (by decide), ?_⟩)
    rw [ix_nI (by omega), h.2 k hk, and_z (hW.2.2.2.2.2.2.1 k hk).2, nI_1]
    refine ⟨fun z => ih (by rw [expl, e]; simp [z]), fun z => ⟨?_, rfl⟩⟩
    rw [if_neg]
    intro q
    exact expl_all.mp q k hk z
theorem c_explainsAll {d : Nat} {M : Mem} {S : SS} (hW : WF S) (h : GC M S) {x : Nat} : AMp d iX9_explainsAll [.ref 0, .int (nI x)] M (if expl (S 4 2) x (S 4 0 2) then 1 else 0) := by
  have hg := hW.2.2.2.2.2.1
  refine eX9_explainsAll M _ (bX9_explainsAll_0 M _ ?_)
  refine up_loop (P := fun k => expl (S 4 2) x k = true → AX9_explainsAll d (fun r M' => some (if expl (S 4 2) x (S 4 0 2) then 1 else 0) = r ∧ M = M') 2 [lR 0, lI (nI x), lI (nI k)] [] M) (S 4 0 2) 0 (by omega) ?_ ?_ rfl
  · intro e
    refine bX9_explainsAll_2 M _ _ ?_
    rw [h.1]
    exact bq_le _ _ rfl rfl (by omega) (by omega) (fun _ => ⟨by rw [if_pos e], rfl⟩) (fun z => by omega)
  · intro k _ hk ih e
    refine bX9_explainsAll_2 M _ _ ?_
    rw [h.1]
    refine bq_le _ _ rfl rfl (by omega) (by omega) (fun z => by omega) (fun _ => ⟨vp_in_nI (by omega) (by decide), ?_⟩)
    rw [ix_nI (by omega), h.2 k hk, and_z (hW.2.2.2.2.2.2.1 k hk).2, nI_1]
    refine ⟨fun z => ih (by rw [expl, e]; simp [z]), fun z => ⟨?_, rfl⟩⟩
    rw [if_neg]
    intro q
    exact expl_all.mp q k hk z
/-- the least set so far, 4096: none -/
def lbTo (S : SS) : Nat → Nat
  | 0 => 4096
  | k + 1 => if (lbTo S k = 4096 ∨ cnt k < cnt (lbTo S k)) ∧ expl (S 4 2) k (S 4 0 2) = true then k else lbTo S k
theorem lbTo_lt (S : SS) : ∀ k, lbTo S k = 4096 ∨ lbTo S k < k
  | 0 => Or.inl rfl
  | k + 1 => by
    rw [lbTo]; split
    · exact Or.inr (by omega)
    · rcases lbTo_lt S k with h | h
      · exact Or.inl h
      · exact Or.inr (by omega)
theorem cnt12 {x : Nat} (h : x < 4096) : cnt x ≤ 12 := by
  have e : cnt x = fb_ct (fun j => x.testBit j) 12 := by
    rw [cnt, show (16 : Nat) = 12 + 4 from rfl, fb_ct_split]
    have : fb_ct (fun k => x.testBit (12 + k)) 4 = 0 := fb_ct_zero.mpr (fun k _ => Nat.testBit_lt_two_pow (Nat.lt_of_lt_of_le h (Nat.pow_le_pow_right (n := 2) (by omega) (show 12 ≤ 12 + k by omega))))
    omega
  rw [e]; exact fb_ct_le _ _
theorem lb_end {S : SS} (hW : WF S) : lbTo S 4096 < 4096 := by
  have h := lbTo_lt S 4096
  rcases h with h | h
  · exfalso
    have e : expl (S 4 2) 4095 (S 4 0 2) = true := expl_all.mpr (fun j hj => by
      have := hW.2.2.2.2.2.2.1 j hj
      rw [show (4095 : Nat) = 2 ^ 12 - 1 from rfl, Nat.and_two_pow_sub_one_eq_mod, Nat.mod_eq_of_lt this.2]
      omega)
    have h2 : lbTo S (4095 + 1) = 4096 := h
    rw [lbTo] at h2
    split at h2
    · omega
    · rename_i q
      rcases lbTo_lt S 4095 with z | z
      · exact q ⟨Or.inl z, e⟩
      · omega
  · exact h
def lbI (b n : Nat) (e : Int32) : Int32 := if b = 4096 then e else nI n
theorem op_least {S : SS} (hW : WF S) : Op S iX9_least iX10_least [] := by
  have hend := lb_end hW
  refine ⟨nI (lbTo S 4096), S, hW, fun M h => ?_, fun M h => ?_⟩
  · have hg := h.2.2.2.1
    refine eX9_least M (bX9_least_0 M ?_)
    refine up_loop (P := fun k => AX9_least 60 (fun r M' => ∃ x, r = some x ∧ x = nI (lbTo S 4096) ∧ FrM M M' ∧ RC M' S) 9 [lR 0, lI (lbI (lbTo S k) (lbTo S k) 4095), lI (lbI (lbTo S k) (cnt (lbTo S k)) 13), lI (nI k), none] [] M) 4096 0 (by omega) ?_ ?_
    · exact bX9_least_9 M _ _ _ (bq_le 4096 4096 rfl rfl (by omega) (by omega) (fun _ => ⟨_, rfl, if_neg (by omega), FrM.rf M, h⟩) (fun z => by omega))
    · intro k _ hk ih
      have hc := cnt12 hk
      have hb := lbTo_lt S k
      have hx : lbI (lbTo S k) (cnt (lbTo S k)) 13 = nI (if lbTo S k = 4096 then 13 else cnt (lbTo S k)) := by rw [lbI]; split <;> rfl
      have hle : (if lbTo S k = 4096 then 13 else cnt (lbTo S k)) ≤ 13 := by
        split
        · omega
        · have := cnt12 (x := lbTo S k) (by omega); omega
      refine bX9_least_9 M _ _ _ (bq_le 4096 k rfl rfl (by omega) (by omega) (fun z => by omega) (fun _ => ?_))
      rw [bc_nI (by omega), nI_1]
      refine bq_le _ _ hx rfl (by omega) (by omega) (fun z => ?_) (fun z => (c_explainsAll hW hg).i ?_)
      · have e : lbTo S (k + 1) = lbTo S k := by
          rw [lbTo, if_neg]
          rintro ⟨q | q, -⟩
          · rw [if_pos q] at z; omega
          · split at z <;> omega
        rw [e] at ih; exact ih
      · cases he : expl (S 4 2) k (S 4 0 2) with
        | false =>
          refine ⟨fun _ => ?_, fun q => absurd rfl q⟩
          have e : lbTo S (k + 1) = lbTo S k := by rw [lbTo, if_neg (fun q => by rw [he] at q; cases q.2)]
          rw [e] at ih; exact ih
        | true =>
          refine ⟨fun q => absurd q (by decide), fun _ => ?_⟩
          have e : lbTo S (k + 1) = k := by
            rw [lbTo, if_pos]
            refine ⟨?_, he⟩
            by_cases q : lbTo S k = 4096
            · exact Or.inl q
            · rw [if_neg q] at z; exact Or.inr z
          rw [e, lbI, if_neg (by omega), lbI, if_neg (by omega)] at ih; exact ih
  · have hg := h.2.2.2.1
    refine eX10_least M (bX10_least_0 M ?_)
    refine up_loop (P := fun k => AX10_least 60 (fun r M' => ∃ x, r = some x ∧ x = nI (lbTo S 4096) ∧ FrC M M' ∧ RM M' S) 4 [lR 77, lI (lbI (lbTo S k) (lbTo S k) (-1)), lI (nI k)] [] M) 4096 0 (by omega) ?_ ?_
    · refine bX10_least_4 M _ _ (bq_le 4096 4096 rfl rfl (by omega) (by omega) (fun _ => ?_) (fun z => by omega))
      rw [lbI, if_neg (by omega)]
      exact ⟨fun _ => ⟨_, rfl, rfl, FrC.rf M, h⟩, fun z => by
        have := congrArg Int32.toInt z
        rw [nI_toInt (by omega)] at this
        have e2 : (-1 : Int32).toInt = -1 := by decide
        omega⟩
    · intro k _ hk ih
      have hb := lbTo_lt S k
      have step : (lbTo S k = 4096 ∨ cnt k < cnt (lbTo S k)) → AX10_least 60 (fun r M' => ∃ x, r = some x ∧ x = nI (lbTo S 4096) ∧ FrC M M' ∧ RM M' S) 27 [lR 77, lI (lbI (lbTo S k) (lbTo S k) (-1)), lI (nI k)] [] M := by
        intro q
        refine bX10_least_27 M _ _ ((c_explains hW hg).i ?_)
        rw [nI_1]
        cases he : expl (S 4 2) k (S 4 0 2) with
        | false =>
          refine ⟨fun _ => ?_, fun q => absurd rfl q⟩
          have e : lbTo S (k + 1) = lbTo S k := by rw [lbTo, if_neg (fun q => by rw [he] at q; cases q.2)]
          rw [e] at ih; exact ih
        | true =>
          refine ⟨fun q => absurd q (by decide), fun _ => ?_⟩
          have e : lbTo S (k + 1) = k := by rw [lbTo, if_pos ⟨q, he⟩]
          rw [e, lbI, if_neg (by omega)] at ih; exact ih
      refine bX10_least_4 M _ _ (bq_le 4096 k rfl rfl (by omega) (by omega) (fun z => by omega) (fun _ => ?_))
      by_cases z : lbTo S k = 4096
      · have e : lbI (lbTo S k) (lbTo S k) (-1) = -1 := if_pos z
        rw [e]
        rw [e] at step
        exact ⟨fun _ => step (Or.inl z), fun q => absurd rfl q⟩
      · have e : lbI (lbTo S k) (lbTo S k) (-1) = nI (lbTo S k) := if_neg z
        rw [e]
        rw [e] at step
        refine ⟨fun q => ?_, fun _ => ?_⟩
        · exfalso
          have := congrArg Int32.toInt q
          rw [nI_toInt (by omega)] at this
          have e2 : (-1 : Int32).toInt = -1 := by decide
          omega
        · have c1 := cnt_le k
          have c2 := cnt_le (lbTo S k)
          rw [bits_nI (by omega), bits_nI (by omega), nI_1]
          refine bq_le _ _ rfl rfl (by omega) (by omega) (fun q => ?_) (fun q => step (Or.inr q))
          have e2 : lbTo S (k + 1) = lbTo S k := by
            rw [lbTo, if_neg]
            rintro ⟨w | w, -⟩ <;> omega
          rw [e2, e] at ih; exact ih
