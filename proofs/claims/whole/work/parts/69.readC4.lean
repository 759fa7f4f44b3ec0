/-! clauses and a whole text: the kinds, and the class -/
theorem codeOK.cg {l l' : VD} {f t : Nat} {b : Bool} (h : codeOK l f t b) (e : ∀ k, f ≤ k → k < t → l' 1 k = l 1 k ∧ l' 2 k = l 2 k) : codeOK l' f t b := by
  obtain ⟨h0, ty, h1, h2, h3, h4⟩ := h
  refine ⟨h0, ty, h1, h2, h3, fun k a b => ?_⟩
  have := h4 k a b
  unfold stepOK at this ⊢
  rw [(e k a b).1, (e k a b).2]
  exact this
def claE (c : Nat) (l : VD) : PR := .inr (c, wrN (wrN l 6 (l 0 0) (l 0 1)) 0 0 (l 0 0 + 1))
def claH (b : Nat) (l : VD) : PR := .inr (b, wrN l 5 (l 0 0) (l 0 1))
def clab (l : VD) (x : Nat) : VD := wrN (wrN l 3 (l 0 0) x) 4 (l 0 0) (l 0 1)
section TXT
variable (T : Nat → Nat) (n : Nat)
/-- what follows the letter and its E -/
def claD (r : PR) : PR := pb (pb (pb (pb r claH) (clo T n 40)) (choOf T n (pieS T n 5))) (clo T n 41)
def claC (r : PR) : PR := pb (claD T n r) claE
def claW (a : Nat) (l : VD) : PR := if hr T n a = 103 ∨ hr T n a = 112 then sumS T n 6 (a + 1) (clab l (hr T n a)) else .inr (a + 1, clab l (hr T n a))
theorem claS_eq (a : Nat) (l : VD) (h : hr T n a = 110 ∨ hr T n a = 103 ∨ hr T n a = 120 ∨ hr T n a = 112) (h2 : ¬ 12 ≤ l 0 0) : claS T n a l = claC T n (claW T n a l) := by
  rw [claS, if_pos h, if_neg h2]
  show pb (claW T n a l) _ = _
  generalize claW T n a l = r
  match r with
  | .inl e => rfl
  | .inr (b, l2) =>
    show pb (clo T n 40 b (wrN l2 5 (l2 0 0) (l2 0 1))) (fun b l3 => pb (choOf T n (pieS T n 5) b l3) (fun c l4 => pb (clo T n 41 c l4) claE)) = pb (pb (pb (clo T n 40 b (wrN l2 5 (l2 0 0) (l2 0 1))) (choOf T n (pieS T n 5))) (clo T n 41)) claE
    rw [pb_pb, pb_pb]
def l00 : VD := fun _ _ => 0
def txtR : PR := pb (claS T n 0 l00) (txtS T n 161)
variable {T} {n}
theorem clab_n {l : VD} {x : Nat} : clab l x 0 1 = l 0 1 ∧ clab l x 0 0 = l 0 0 := ⟨by rw [clab, wrN_ne (by omega), wrN_ne (by omega)], by rw [clab, wrN_ne (by omega), wrN_ne (by omega)]⟩
theorem clab_o {l : VD} {x r k : Nat} (h : r < 3 ∨ 4 < r ∨ k ≠ l 0 0) : clab l x r k = l r k := by rw [clab, wrN_ne (by omega), wrN_ne (by omega)]
theorem clab_3 {l : VD} {x : Nat} : clab l x 3 (l 0 0) = x := by rw [clab, wrN_ne (by omega), wrN_same]
theorem clab_4 {l : VD} {x : Nat} : clab l x 4 (l 0 0) = l 0 1 := wrN_same _ _ _ _
/-- behind the C: what was where -/
theorem claD_ok (hn : n ≤ 160) {r : PR} {e : Nat} {l4 : VD} (h : claD T n r = .inr (e, l4)) (hr : ∀ b l2, r = .inr (b, l2) → b ≤ n ∧ l2 0 1 ≤ b ∧ LB l2) : ∃ b l2, r = .inr (b, l2) ∧ b < e ∧ e ≤ n ∧ l4 0 1 ≤ e ∧ l2 0 1 < l4 0 1 ∧ LB l4 ∧ Ag (wrN l2 5 (l2 0 0) (l2 0 1)) l4 ∧ codeOK l4 (l2 0 1) (l4 0 1) true := by
  obtain ⟨c2, l4, e3, e4⟩ := pb_inr h
  obtain ⟨b2, l3, e5, e6⟩ := pb_inr e3
  obtain ⟨b1, l3', e7, e8⟩ := pb_inr e5
  obtain ⟨b, l2, e9, e10⟩ := pb_inr e7
  cases e10
  obtain ⟨w1, rfl, rfl⟩ := clo_G (by omega) e8
  obtain ⟨w2, rfl, rfl⟩ := clo_G (by omega) e4
  obtain ⟨h1, h2, h3⟩ := hr b1 l2 e9
  have n3 : wrN l2 5 (l2 0 0) (l2 0 1) 0 1 = l2 0 1 := wrN_ne (by omega)
  have b3 : LB (wrN l2 5 (l2 0 0) (l2 0 1)) := fun k hk => by rw [n3] at hk; rw [wrN_ne (by omega)]; exact h3 k hk
  obtain ⟨g1, g2, g3, g4, g5, g6, g7⟩ := choOf_G hn (by omega) (pieS_G hn 5) (b1 + 1) _ c2 _ (by omega) (by rw [n3]; omega) b3 e6
  rw [n3] at g3 g4
  have := g7 [] (by decide)
  rw [n3] at this
  exact ⟨b1, l2, e9, by omega, by omega, by omega, g4, g5, g6, this.code g4⟩
theorem claC_ok (hn : n ≤ 160) {r : PR} {e : Nat} {l' : VD} (h : claC T n r = .inr (e, l')) (hr : ∀ b l2, r = .inr (b, l2) → b ≤ n ∧ l2 0 1 ≤ b ∧ LB l2) : ∃ b l2 l4, r = .inr (b, l2) ∧ b < e ∧ e ≤ n ∧ l4 0 1 ≤ e ∧ l2 0 1 < l4 0 1 ∧ LB l4 ∧ Ag (wrN l2 5 (l2 0 0) (l2 0 1)) l4 ∧ codeOK l4 (l2 0 1) (l4 0 1) true ∧ l' = wrN (wrN l4 6 (l4 0 0) (l4 0 1)) 0 0 (l4 0 0 + 1) := by
  obtain ⟨c3, l5, e1, e2⟩ := pb_inr h
  cases e2
  obtain ⟨b, l2, h1, h2, h3, h4, h5, h6, h7, h8⟩ := claD_ok hn e1 hr
  exact ⟨b, l2, l5, h1, h2, h3, h4, h5, h6, h7, h8, rfl⟩
theorem claS_W (hn : n ≤ 160) {a b : Nat} {l l' : VD} (ha : a ≤ n) (hl : l 0 1 ≤ a) (hB : LB l) (hw : WFL l) (e : claS T n a l = .inr (b, l')) : a < b ∧ b ≤ n ∧ l' 0 1 ≤ b ∧ LB l' ∧ WFL l' := by
  by_cases q : hr T n a = 110 ∨ hr T n a = 103 ∨ hr T n a = 120 ∨ hr T n a = 112
  · by_cases q2 : 12 ≤ l 0 0
    · rw [claS, if_pos q, if_pos q2] at e; cases e
    · rw [claS_eq T n a l q q2] at e
      have qa := hr_lt (T := T) (n := n) (a := a) (by omega)
      have b1 : LB (clab l (hr T n a)) := fun k hk => by rw [clab_n.1] at hk; rw [clab_o (by omega)]; exact hB k hk
      have W : ∀ b1 l2, claW T n a l = .inr (b1, l2) → a < b1 ∧ b1 ≤ n ∧ l2 0 1 ≤ b1 ∧ l 0 1 ≤ l2 0 1 ∧ LB l2 ∧ Ag (clab l (hr T n a)) l2 ∧ ((hr T n a = 103 ∨ hr T n a = 112) → codeOK l2 (l 0 1) (l2 0 1) false) := by
        intro b2 l2 e2
        rw [claW] at e2
        split at e2
        · rename_i q3
          obtain ⟨g1, g2, g3, g4, g5, g6, g7⟩ := sumS_G 6 (a + 1) _ b2 l2 (by omega) (by rw [clab_n.1]; omega) b1 e2
          rw [clab_n.1] at g3 g4
          have := g7 [] (by decide)
          rw [clab_n.1] at this
          exact ⟨by omega, g2, by omega, by omega, g5, g6, fun _ => this.code g4⟩
        · rename_i q3
          cases e2
          exact ⟨by omega, by omega, by rw [clab_n.1]; omega, by rw [clab_n.1]; omega, b1, Ag.rf _, fun z => absurd z q3⟩
      obtain ⟨c1, l2, l4, e1, k1, k2, k3, k4, k5, k6, k7, rfl⟩ := claC_ok hn e (fun b2 l2 e2 => by have := W b2 l2 e2; exact ⟨this.2.1, this.2.2.1, this.2.2.2.2.1⟩)
      obtain ⟨w1, w2, w3, w4, w5, w6, w7⟩ := W c1 l2 e1
      have n2 : l2 0 0 = l 0 0 := w6.2.1.trans clab_n.2
      have n3 : wrN l2 5 (l2 0 0) (l2 0 1) 0 1 = l2 0 1 := wrN_ne (by omega)
      have n3' : wrN l2 5 (l2 0 0) (l2 0 1) 0 0 = l2 0 0 := wrN_ne (by omega)
      have n4 : l4 0 0 = l 0 0 := k6.2.1.trans (n3'.trans n2)
      have F : ∀ r k, r < 6 → ¬ r = 0 → wrN (wrN l4 6 (l4 0 0) (l4 0 1)) 0 0 (l4 0 0 + 1) r k = l4 r k := fun r k h1 h2 => by rw [wrN_ne (by omega), wrN_ne (by omega)]
      have F0 : wrN (wrN l4 6 (l4 0 0) (l4 0 1)) 0 0 (l4 0 0 + 1) 0 0 = l 0 0 + 1 := by rw [wrN_same, n4]
      have F1 : wrN (wrN l4 6 (l4 0 0) (l4 0 1)) 0 0 (l4 0 0 + 1) 0 1 = l4 0 1 := by rw [wrN_ne (by omega), wrN_ne (by omega)]
      have F3 : ∀ j, l4 3 j = clab l (hr T n a) 3 j := fun j => by rw [k6.2.2 3 j (by omega), wrN_ne (by omega), w6.2.2 3 j (by omega)]
      have F4 : ∀ j, l4 4 j = clab l (hr T n a) 4 j := fun j => by rw [k6.2.2 4 j (by omega), wrN_ne (by omega), w6.2.2 4 j (by omega)]
      have F5 : ∀ j, ¬ j = l 0 0 → l4 5 j = l 5 j := fun j hj => by rw [k6.2.2 5 j (by omega), wrN_ne (by omega), w6.2.2 5 j (by omega), clab_o (by omega)]
      have F5c : l4 5 (l 0 0) = l2 0 1 := by rw [k6.2.2 5 _ (by omega), n2, wrN_same]
      have F6 : ∀ j, ¬ j = l 0 0 → wrN (wrN l4 6 (l4 0 0) (l4 0 1)) 0 0 (l4 0 0 + 1) 6 j = l 6 j := fun j hj => by rw [wrN_ne (by omega), n4, wrN_ne (by omega), k6.2.2 6 j (by omega), wrN_ne (by omega), w6.2.2 6 j (by omega), clab_o (by omega)]
      have F6c : wrN (wrN l4 6 (l4 0 0) (l4 0 1)) 0 0 (l4 0 0 + 1) 6 (l 0 0) = l4 0 1 := by rw [wrN_ne (by omega), n4, wrN_same]
      have lo2 : ∀ k, k < l2 0 1 → l4 1 k = l2 1 k ∧ l4 2 k = l2 2 k := fun k hk => by
        have := k6.1 k (by rw [n3]; exact hk)
        rw [wrN_ne (by omega), wrN_ne (by omega)] at this
        exact this
      have lo : ∀ k, k < l 0 1 → l4 1 k = l 1 k ∧ l4 2 k = l 2 k := fun k hk => by
        have h1 := lo2 k (by omega)
        have h2 := w6.1 k (by rw [clab_n.1]; exact hk)
        rw [clab_o (by omega), clab_o (by omega)] at h2
        exact ⟨h1.1.trans h2.1, h1.2.trans h2.2⟩
      refine ⟨by omega, k2, by rw [F1]; exact k3, fun k hk => ?_, ?_, ?_, fun c hc => ?_⟩
      · rw [F1] at hk; rw [F 2 k (by omega) (by omega)]; exact k5 k hk
      · rw [F0]; omega
      · rw [F1]; omega
      · rw [F0] at hc
        have cg : ∀ {f t tb}, codeOK l4 f t tb → codeOK (wrN (wrN l4 6 (l4 0 0) (l4 0 1)) 0 0 (l4 0 0 + 1)) f t tb := fun h => h.cg (fun k _ _ => ⟨F 1 k (by omega) (by omega), F 2 k (by omega) (by omega)⟩)
        rw [F 3 c (by omega) (by omega), F 4 c (by omega) (by omega), F 5 c (by omega) (by omega), F1, F3, F4]
        by_cases z : c = l 0 0
        · subst z
          rw [clab_3, clab_4, F5c, F6c]
          refine ⟨w4, by omega, by omega, q, cg k7, fun z => cg ((w7 z).cg (fun k _ hk => lo2 k hk))⟩
        · rw [clab_o (by omega), clab_o (by omega), F5 c z, F6 c z]
          obtain ⟨v1, v2, v3, v4, v5, v6⟩ := hw.2.2 c (by omega)
          exact ⟨v1, v2, by omega, v4, cg (v5.cg (fun k _ hk => lo k (by omega))), fun z => cg ((v6 z).cg (fun k _ hk => lo k (by omega)))⟩
  · rw [claS, if_neg q] at e; cases e
theorem txtS_W (hn : n ≤ 160) : ∀ k a l b l', a ≤ n → l 0 1 ≤ a → LB l → WFL l → txtS T n k a l = .inr (b, l') → b ≤ n ∧ l' 0 1 ≤ b ∧ LB l' ∧ WFL l' := by
  intro k
  induction k with
  | zero => intro a l b l' ha hl hB hw e; cases e; exact ⟨ha, hl, hB, hw⟩
  | succ k ih =>
    intro a l b l' ha hl hB hw e
    rw [txtS] at e
    split at e
    · obtain ⟨b1, l1, e1, e2⟩ := pb_inr e
      obtain ⟨w1, rfl, rfl⟩ := clo_G (by omega) e1
      obtain ⟨b2, l2, e3, e4⟩ := pb_inr e2
      obtain ⟨g1, g2, g3, g4, g5⟩ := claS_W hn (by omega) (by omega) hB hw e3
      exact ih b2 l2 b l' g2 g3 g4 g5 e4
    · cases e; exact ⟨ha, hl, hB, hw⟩
theorem l00_W : WFL l00 := ⟨Nat.zero_le _, Nat.zero_le _, fun c hc => absurd hc (Nat.not_lt_zero _)⟩
theorem txtR_W (hn : n ≤ 160) {b : Nat} {l : VD} (e : txtR T n = .inr (b, l)) : WFL l := by
  obtain ⟨b1, l1, e1, e2⟩ := pb_inr e
  obtain ⟨g1, g2, g3, g4, g5⟩ := claS_W hn (Nat.zero_le _) (Nat.le_refl _) (fun k hk => absurd hk (Nat.not_lt_zero _)) l00_W e1
  exact (txtS_W hn 161 b1 l1 b l g2 g3 g4 g5 e2).2.2.2
end TXT
